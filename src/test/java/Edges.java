/** What the tests of boundary cases share: numbers out of bounds, refused calls, all of an object. */
final class Edges {
    static final int LEAST = Integer.MIN_VALUE, MOST = Integer.MAX_VALUE;

    interface Act {
        long on(BeatWords x);
    }

    interface Of {
        long on(BeatWords x, int number);
    }

    interface Maker {
        BeatWords make();
    }

    private Edges() {
    }

    /** Numbers below least and above most: those next to them, far ones, and such as would wrap. */
    static int[] outside(int least, int most) {
        return new int[] {LEAST, LEAST + 1, least - 65536, least - 256, least - 2, least - 1, most + 1,
            most + 2, most + 256, most + 65536, 1 << 30, MOST - 1, MOST};
    }

    /** Each number outside least to most is refused by BAD. */
    static void bad(Due due, Maker maker, String call, int least, int most, Of act) {
        for (int number : outside(least, most)) {
            refused(due, maker, call + " of " + number, x -> act.on(x, number), BeatWords.BAD);
        }
    }

    /** A call answers want, which refuses it, and changes nothing (a FINDING: count() 8 alone). */
    static void refused(Due due, Maker maker, String call, Act act, long want) {
        refused(due, maker, call, act, want, want <= -11 && want >= -15 ? (int) (-10 - want) : 0);
    }

    /** Likewise where the answer does not tell which FINDING it is; 0: it is none. */
    static void refused(Due due, Maker maker, String call, Act act, long want, int finding) {
        BeatWords twin = maker.make();
        int latest = twin.count(8);
        String before = all(twin);
        BeatWords x = maker.make();
        due.is(call, act.on(x), want);
        due.is("count(8) behind " + call, x.count(8), finding == 0 ? latest : finding);
        due.is("all else behind " + call, all(x), before);
    }

    /** All that can be seen of an object but for count() 8, as text. The object is used up by it. */
    static String all(BeatWords x) {
        StringBuilder all = new StringBuilder();
        all.append(x.digest());
        int[] first = {0, 1, 0, 0, 0, 0, 0, 0, 0};
        for (int k = 0; k < 9; k++) {
            all.append(' ').append(x.way(k, first[k]));
        }
        // by the first WAYS there are most SYLLABLES: TOLD that were out of sight are seen
        all.append(' ').append(x.digest());
        for (int s = 0; s < 4; s++) {
            all.append(" /").append(items(x, s));
        }
        return all.toString();
    }

    /** FORM, items and size of a SHEET, which is LOST by it. */
    private static String items(BeatWords x, int s) {
        StringBuilder items = new StringBuilder();
        for (int form = 0; form <= 2; form++) {
            items.append(' ').append(x.put(s, form, -1, 0));
        }
        for (int i = 0; i < 60 && x.get(s, i) != LEAST; i++) {
            items.append(' ').append(x.get(s, i));
        }
        return items.append(" of ").append(x.lose(s)).toString();
    }

    /** All that all() sees differs from what a new object has; the latest FINDING is the one told. */
    static BeatWords rich(int finding) {
        BeatWords x = Runs.typed("baibanna kalamazoo dai antan");
        x.tell(1, 2);
        x.tell(7, 1);
        x.tell(11, 2);
        int[] ways = {1, 2, 1, 1, 1, 1, 1, 2, 2};
        for (int k = 0; k < 9; k++) {
            x.way(k, ways[k]);
        }
        x.mark(0, 1);
        x.mark(3, 0);
        x.sheet(0, 0, 3);
        x.sheet(1, 1, 2);
        x.sheet(2, 2, 2);
        x.put(0, 0, 0, 'a');
        x.put(0, 0, 2, 'n');
        x.put(1, 1, 1, 1000);
        x.put(2, 2, 0, 5);
        find(x, finding);
        return x;
    }

    /** Makes a FINDING the latest, on an object as rich() makes it. */
    private static void find(BeatWords x, int finding) {
        switch (finding) {
            case 1: x.lose(3); break;
            case 2: x.put(0, 0, -1, 0); break;
            case 3: x.put(0, 1, 0, 0); break;
            case 4: x.copy(0, 0, 1, 0, 1); break;
            case 5: x.sheet(3, 0, -1); break;
            default: break;
        }
    }

    /** SHEETS 0 to 2 of FORMS 0 to 2 and 3 LOST; a FINDING that few calls make is the latest. */
    static BeatWords rich() {
        return rich(5);
    }

    /** A text of 60 bytes, some TOLD, and SHEETS. */
    static BeatWords full() {
        BeatWords x = Runs.typed(times("banan ", 9) + "banana");
        x.tell(0, 1);
        x.tell(18, 2);
        x.mark(0, 1);
        x.way(Runs.WINDOW, 1);
        x.sheet(1, 1, 2);
        return x;
    }

    static String times(String text, int n) {
        StringBuilder all = new StringBuilder();
        for (int i = 0; i < n; i++) {
            all.append(text);
        }
        return all.toString();
    }

    /** 30 WORDS in 60 bytes. */
    static String thirtyWords() {
        return times("a ", 29) + "aa";
    }

    /** 60 SYLLABLES in 60 bytes. */
    static String sixtySyllables() {
        return times("ae", 30);
    }
}
