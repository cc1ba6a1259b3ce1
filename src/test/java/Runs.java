/** What the tests share: objects with a text, and how they are read. */
final class Runs {
    static final int NULL = -11, INDEX = -12, CAST = -13, STORE = -14, SIZE = -15;
    static final int TWINS = 0, ONSET = 1, CODA = 2, EDGE = 3, SORT = 4, FROM = 5, REST = 6, MAIN = 7, WINDOW = 8;

    private Runs() {
    }

    static BeatWords typed(String text) {
        BeatWords x = new BeatWords();
        type(x, text);
        return x;
    }

    static void type(BeatWords x, String text) {
        for (int i = 0; i < text.length(); i++) {
            x.type(text.charAt(i));
        }
    }

    static void retype(BeatWords x, String text) {
        x.wipe();
        type(x, text);
    }

    /** SYLLABLES without a coda: L becomes a LIGHT one, H a HEAVY one; blanks part WORDS. */
    static String shaped(String shape) {
        return shape.replace("H", "baa").replace("L", "ba");
    }

    /** One sign for each SYLLABLE: what syllable() answers, - for NONE. */
    static String row(BeatWords x, int what) {
        StringBuilder row = new StringBuilder();
        for (int k = 0; k < x.count(2); k++) {
            int answer = x.syllable(k, what);
            row.append(answer == -1 ? "-" : "" + answer);
        }
        return row.toString();
    }

    static String feet(BeatWords x) {
        return row(x, 4);
    }

    static String beats(BeatWords x) {
        return row(x, 5);
    }

    static String heard(BeatWords x) {
        return row(x, 6);
    }

    static String told(BeatWords x) {
        return row(x, 7);
    }

    static void tell(BeatWords x, String beats) {
        for (int k = 0; k < beats.length(); k++) {
            x.tell(k, beats.charAt(k) - '0');
        }
    }

    static String shown(BeatWords x) {
        StringBuilder text = new StringBuilder();
        for (int n = 0; n < x.text(BeatWords.NONE); n++) {
            text.append((char) x.text(n));
        }
        return text.toString();
    }

    static String nearest(BeatWords x) {
        StringBuilder row = new StringBuilder();
        for (int what = 0; what <= 4; what++) {
            row.append(what == 0 ? "" : " ").append(x.nearest(what));
        }
        return row.toString();
    }

    static String heardCounts(BeatWords x) {
        StringBuilder row = new StringBuilder();
        for (int what = 0; what <= 3; what++) {
            row.append(what == 0 ? "" : " ").append(x.heard(what));
        }
        return row.toString();
    }

    static String counts(BeatWords x) {
        StringBuilder row = new StringBuilder();
        for (int what = 0; what <= 8; what++) {
            row.append(what == 0 ? "" : " ").append(x.count(what));
        }
        return row.toString();
    }

    static String items(BeatWords x, int s, int n) {
        StringBuilder row = new StringBuilder();
        for (int i = 0; i < n; i++) {
            row.append(i == 0 ? "" : " ").append(x.get(s, i));
        }
        return row.toString();
    }

    /** A SHEET of bytes with a text as its items. */
    static void sheetOf(BeatWords x, int s, String text) {
        x.sheet(s, 0, text.length());
        for (int i = 0; i < text.length(); i++) {
            x.put(s, 0, i, text.charAt(i));
        }
    }

    /** Objects that are all alike, each used for fewer calls than the document promises anything of. */
    private static final class Alike {
        private final Edges.Maker maker;
        private BeatWords one;
        private int calls;

        Alike(Edges.Maker maker) {
            this.maker = maker;
            one = maker.make();
        }

        BeatWords next() {
            if (calls == 200) {
                one = maker.make();
                calls = 0;
            }
            calls++;
            return one;
        }
    }

    /** What the document tells of digest(), by the calls that it names. */
    static long digestByCalls(Edges.Maker maker) {
        Alike x = new Alike(maker);
        int words = x.next().count(1);
        int syllables = x.next().count(2);
        int clashes = x.next().heard(2);
        int bytes = x.next().text(BeatWords.NONE);
        long h = 17;
        for (int what = 0; what <= 7; what++) {
            h = 31 * h + x.next().count(what);
        }
        h = 31 * h + x.next().flaw();
        for (int k = 0; k < words; k++) {
            for (int what = 0; what <= 5; what++) {
                h = 31 * h + x.next().word(k, what);
            }
            h = 31 * h + x.next().marked(k);
        }
        for (int k = 0; k < syllables; k++) {
            for (int what = 0; what <= 7; what++) {
                h = 31 * h + x.next().syllable(k, what);
            }
        }
        for (int k = 0; k < clashes; k++) {
            h = 31 * h + x.next().clash(k);
        }
        for (int what = 0; what <= 3; what++) {
            h = 31 * h + x.next().heard(what);
        }
        h = 31 * h + x.next().near();
        for (int what = 0; what <= 4; what++) {
            h = 31 * h + x.next().nearest(what);
        }
        for (int what = 0; what <= 2; what++) {
            h = 31 * h + x.next().share(what);
        }
        for (int n = BeatWords.NONE; n < bytes; n++) {
            h = 31 * h + x.next().text(n);
        }
        return h;
    }
}
