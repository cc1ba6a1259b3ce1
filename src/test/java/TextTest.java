/** Promises 1 to 8: the text, the ways, words and syllables, feet and beats. */
public final class TextTest {
    private static final Due due = new Due();

    public static void main(String[] args) {
        newObject();
        type();
        wipe();
        read();
        flaw();
        way();
        word();
        syllables();
        moras();
        feet();
        mainFoot();
        due.end();
    }

    private static void newObject() {
        due.promise("promise 1");
        BeatWords x = new BeatWords();
        due.is("counts", Runs.counts(x), "0 0 0 0 0 0 0 0 0");
        due.is("flaw()", x.flaw(), 0);
        due.is("text(-1)", x.text(-1), 0);
        long h = 17;
        for (int i = 0; i < 23; i++) {
            h *= 31;
        }
        due.is("digest()", x.digest(), h);
        int[] first = {0, 1, 0, 0, 0, 0, 0, 0, 0};
        for (int k = 0; k < 9; k++) {
            due.is("way(" + k + ", 1)", x.way(k, 1), first[k]);
        }
        for (int s = 0; s < 4; s++) {
            due.is("lose(" + s + ")", new BeatWords().lose(s), Runs.NULL);
        }
        BeatWords one = Runs.typed("baba");
        one.mark(0, 1);
        one.sheet(0, 1, 3);
        one.way(4, 2);
        BeatWords other = new BeatWords();
        due.is("another object's counts", Runs.counts(other), "0 0 0 0 0 0 0 0 0");
        due.is("another object's lose(0)", other.lose(0), Runs.NULL);
        due.is("another object's way(4, 0)", other.way(4, 0), 0);
    }

    private static void type() {
        due.promise("promise 2");
        BeatWords x = new BeatWords();
        due.is("type(-1)", x.type(-1), -2);
        due.is("type(256)", x.type(256), -2);
        due.is("type(least)", x.type(Integer.MIN_VALUE), -2);
        due.is("type(most)", x.type(Integer.MAX_VALUE), -2);
        due.is("type(0)", x.type(0), 1);
        due.is("type(255)", x.type(255), 2);
        x.wipe();
        for (int i = 1; i <= 60; i++) {
            due.is("type('a')", x.type('a'), i);
        }
        Runs.tell(x, "12");
        long before = x.digest();
        due.is("type('a') of 60", x.type('a'), -4);
        due.is("type(256) of 60", x.type(256), -2);
        due.is("type(-1) of 60", x.type(-1), -2);
        due.is("digest() behind refusals", x.digest(), before);
        due.is("count(8)", x.count(8), 0);
        x = Runs.typed("baba");
        x.mark(0, 1);
        x.way(Runs.REST, 1);
        Runs.tell(x, "21");
        due.is("type(300)", x.type(300), -2);
        due.is("told behind a refusal", Runs.told(x), "21");
        due.is("type(' ')", x.type(' '), 5);
        due.is("type('b')", x.type('b'), 6);
        due.is("type('a')", x.type('a'), 7);
        due.is("told behind type()", Runs.told(x), "000");
        due.is("marked(0) stays", x.marked(0), 1);
        due.is("way stays", x.way(Runs.REST, 0), 1);
        due.is("text", Runs.shown(x), "ba.'ba 'ba");
    }

    private static void wipe() {
        due.promise("promise 3");
        BeatWords x = Runs.typed("baba ba");
        x.mark(0, 1);
        x.way(Runs.SORT, 2);
        Runs.tell(x, "222");
        x.sheet(1, 1, 4);
        due.is("wipe()", x.wipe(), 7);
        due.is("count(0)", x.count(0), 0);
        due.is("count(1)", x.count(1), 0);
        due.is("flaw()", x.flaw(), 0);
        due.is("wipe() of none", x.wipe(), 0);
        due.is("count(5)", x.count(5), 1);
        due.is("lose(1)", x.lose(1), 4);
        Runs.sheetOf(x, 0, "baba ba");
        due.is("type", x.type('a'), 1);
        due.is("told", Runs.told(x), "0");
        due.is("way(4)", x.way(Runs.SORT, 0), 2);
        BeatWords y = Runs.typed("ba");
        y.tell(0, 2);
        y.wipe();
        Runs.sheetOf(y, 0, "ba");
        y.read(0);
        due.is("told behind wipe() and read()", Runs.told(y), "0");
    }

    private static void read() {
        due.promise("promise 4");
        BeatWords x = Runs.typed("baba");
        x.mark(0, 1);
        Runs.tell(x, "12");
        long before = x.digest();
        due.is("read(-1)", x.read(-1), -2);
        due.is("read(4)", x.read(4), -2);
        due.is("count(8)", x.count(8), 0);
        due.is("read(0) of a LOST one", x.read(0), Runs.NULL);
        due.is("count(8)", x.count(8), 1);
        x.sheet(1, 1, 3);
        x.sheet(2, 2, 3);
        due.is("read(1) of ints", x.read(1), Runs.CAST);
        due.is("count(8)", x.count(8), 3);
        due.is("read(2) of floats", x.read(2), Runs.CAST);
        due.is("digest() behind refusals", x.digest(), before);
        Runs.sheetOf(x, 3, "da baba");
        due.is("read(3)", x.read(3), 7);
        due.is("text", Runs.shown(x), "'da ba.'ba");
        due.is("told", Runs.told(x), "000");
        x.put(3, 0, 0, 'z');
        due.is("text behind put()", Runs.shown(x), "'da ba.'ba");
        due.is("type() behind read()", x.type('n'), 8);
        due.is("get(3, 0)", x.get(3, 0), 'z');
        x.put(3, 0, 1, 200);
        due.is("read(3) with another sign", x.read(3), 7);
        due.is("flaw()", x.flaw(), 1);
        x.sheet(3, 0, 0);
        due.is("read(3) of none", x.read(3), 0);
        due.is("count(0)", x.count(0), 0);
        StringBuilder most = new StringBuilder();
        for (int i = 0; i < 60; i++) {
            most.append('a');
        }
        Runs.sheetOf(x, 0, most.toString());
        due.is("read(0) of 60", x.read(0), 60);
        due.is("count(2)", x.count(2), 30);
        due.is("type() of 60", x.type('a'), -4);
    }

    private static void flawOf(String text, int want) {
        due.is("flaw() of <" + text + ">", Runs.typed(text).flaw(), want);
    }

    private static void flaw() {
        due.promise("promise 5");
        flawOf("", 0);
        flawOf("a", -1);
        flawOf("baba nan zoo", -1);
        flawOf(" ", 0);
        flawOf(" a", 0);
        flawOf("a ", 2);
        flawOf("a  a", 2);
        flawOf("a b", 3);
        flawOf("b", 1);
        flawOf("b a", 1);
        flawOf("a bcd a", 5);
        flawOf("a bcd", 5);
        flawOf("aA", 1);
        flawOf("A", 0);
        flawOf("a`", 1);
        flawOf("a{", 1);
        flawOf("aza", -1);
        flawOf("ba\u00e4", 2);
        flawOf("a.", 1);
        flawOf("a\u0000", 1);
        flawOf("a\u0020\u0000", 2);
        flawOf("bcd.", 3);
        flawOf("bcd  .", 3);
        flawOf("e i o u", -1);
        flawOf("y", 1);
        BeatWords x = Runs.typed("baba b");
        for (int what = 1; what <= 7; what++) {
            due.is("count(" + what + ") with a FLAW", x.count(what), 0);
        }
        due.is("count(0) with a FLAW", x.count(0), 6);
        due.is("word(0, 0) with a FLAW", x.word(0, 0), -2);
        due.is("syllable(0, 0) with a FLAW", x.syllable(0, 0), -2);
    }

    private static void way() {
        due.promise("promise 6");
        int[] least = {0, 1, 0, 0, 0, 0, 0, 0, 0};
        int[] most = {1, 2, 2, 2, 2, 1, 1, 2, 3};
        BeatWords x = new BeatWords();
        for (int k = 0; k < 9; k++) {
            int was = least[k];
            for (int v = least[k]; v <= most[k]; v++) {
                due.is("way(" + k + ", " + v + ")", x.way(k, v), was);
                due.is("way(" + k + ", " + (most[k] + 1) + ")", x.way(k, most[k] + 1), -2);
                due.is("way(" + k + ", " + (least[k] - 1) + ")", x.way(k, least[k] - 1), -2);
                was = v;
            }
        }
        due.is("way(-1, 0)", x.way(-1, 0), -2);
        due.is("way(9, 0)", x.way(9, 0), -2);
        due.is("way(9, 1)", x.way(9, 1), -2);
        due.is("way(most, 1)", x.way(Integer.MAX_VALUE, 1), -2);
        due.is("way(least, 1)", x.way(Integer.MIN_VALUE, 1), -2);
        due.is("way(4, most)", x.way(4, Integer.MAX_VALUE), -2);
        due.is("way(4, least)", x.way(4, Integer.MIN_VALUE), -2);
        due.is("count(8)", x.count(8), 0);
        x = Runs.typed("baiba");
        Runs.tell(x, "121");
        x.way(Runs.TWINS, 1);
        due.is("told by other WAYS", Runs.told(x), "12");
        x.way(Runs.TWINS, 0);
        due.is("told by the WAYS as they were", Runs.told(x), "121");
    }

    private static void word() {
        due.promise("promise 7");
        BeatWords x = Runs.typed("banana kalamazoo a");
        int[][] want = {{0, 3, 1, 0, 0, 0}, {3, 4, 2, 3, 3, 0}, {7, 1, 1, 7, 7, 0}};
        for (int k = 0; k < 3; k++) {
            for (int what = 0; what <= 5; what++) {
                due.is("word(" + k + ", " + what + ")", x.word(k, what), want[k][what]);
            }
        }
        due.is("word(-1, 0)", x.word(-1, 0), -2);
        due.is("word(3, 0)", x.word(3, 0), -2);
        due.is("word(0, -1)", x.word(0, -1), -2);
        due.is("word(0, 6)", x.word(0, 6), -2);
        due.is("word(most, 0)", x.word(Integer.MAX_VALUE, 0), -2);
        due.is("word(least, 0)", x.word(Integer.MIN_VALUE, 0), -2);
        due.is("count(8)", x.count(8), 0);
        x.mark(1, 3);
        due.is("word(1, 3) marked", x.word(1, 3), 6);
        due.is("word(1, 5) marked", x.word(1, 5), 1);
        due.is("word(0, 5)", x.word(0, 5), 0);
        x.way(Runs.WINDOW, 1);
        due.is("word(1, 3) marked", x.word(1, 3), 6);
        due.is("word(1, 4) marked, HEARD", x.word(1, 4), 3);
        Runs.retype(x, "a a a a a a a a a a a a a a a a a a a a a a a a a a a a a aa");
        due.is("count(1)", x.count(1), 30);
        due.is("word(29, 0)", x.word(29, 0), 29);
        due.is("word(30, 0)", x.word(30, 0), -2);
        Runs.retype(x, "ba");
        due.is("word(0, 1)", x.word(0, 1), 1);
        due.is("word(1, 1)", x.word(1, 1), -2);
    }

    /** The SYLLABLES of a text, parted by full stops, by TWINS and ONSET. */
    private static void cut(String text, int twins, int onset, String want) {
        BeatWords x = Runs.typed(text);
        x.way(Runs.TWINS, twins);
        x.way(Runs.ONSET, onset);
        StringBuilder got = new StringBuilder();
        for (int k = 0; k < x.count(2); k++) {
            int start = x.syllable(k, 1);
            boolean opens = k > 0 && x.syllable(k, 0) != x.syllable(k - 1, 0);
            got.append(k == 0 ? "" : opens ? " " : ".").append(text, start, start + x.syllable(k, 2));
        }
        due.is("cut of " + text + " by " + twins + ", " + onset, got.toString(), want);
    }

    private static void syllables() {
        due.promise("promise 8, cut");
        cut("banana", 0, 1, "ba.na.na");
        cut("a", 0, 1, "a");
        cut("strengths", 0, 1, "strengths");
        cut("aa", 0, 1, "aa");
        cut("aaa", 0, 1, "aa.a");
        cut("aaaa", 0, 1, "aa.aa");
        cut("ae", 0, 1, "a.e");
        cut("ai", 0, 1, "a.i");
        cut("ai", 1, 1, "ai");
        cut("au", 1, 1, "au");
        cut("ae", 1, 1, "a.e");
        cut("ia", 1, 1, "i.a");
        cut("ui", 1, 1, "ui");
        cut("iu", 1, 1, "iu");
        cut("ii", 1, 1, "ii");
        cut("aii", 0, 1, "a.ii");
        cut("aii", 1, 1, "ai.i");
        cut("aai", 1, 1, "aa.i");
        cut("eio", 1, 1, "ei.o");
        cut("ou eu", 1, 1, "ou eu");
        cut("oo ee uu", 1, 1, "oo ee uu");
        cut("a aa", 0, 1, "a aa");
        cut("ba ab", 0, 1, "ba ab");
        cut("aktra", 0, 1, "akt.ra");
        cut("aktra", 0, 2, "ak.tra");
        cut("atra", 0, 1, "at.ra");
        cut("atra", 0, 2, "a.tra");
        cut("ata", 0, 2, "a.ta");
        cut("aa", 0, 2, "aa");
        cut("aea", 0, 2, "a.e.a");
        cut("strengthsangst", 0, 2, "strengt.hsangst");
        cut("an tra ab tsi", 0, 2, "an tra ab tsi");
        due.promise("promise 8");
        BeatWords x = Runs.typed("banan kalamazoo");
        Runs.tell(x, "0120120");
        due.is("words", Runs.row(x, 0), "001111");
        due.is("starts", Runs.row(x, 1), "026810" + "12");
        due.is("sizes", Runs.row(x, 2), "232223");
        due.is("MORAS", Runs.row(x, 3), "111112");
        due.is("FEET", Runs.row(x, 4), "000011");
        due.is("BEATS", Runs.row(x, 5), "202010");
        due.is("HEARD", Runs.row(x, 6), "202010");
        due.is("TOLD", Runs.row(x, 7), "012012");
        due.is("syllable(-1, 0)", x.syllable(-1, 0), -2);
        due.is("syllable(6, 0)", x.syllable(6, 0), -2);
        due.is("syllable(0, -1)", x.syllable(0, -1), -2);
        due.is("syllable(0, 8)", x.syllable(0, 8), -2);
        due.is("syllable(most, 0)", x.syllable(Integer.MAX_VALUE, 0), -2);
        due.is("syllable(least, 7)", x.syllable(Integer.MIN_VALUE, 7), -2);
        due.is("count(8)", x.count(8), 0);
        x.way(Runs.WINDOW, 2);
        due.is("BEATS", Runs.row(x, 5), "202010");
        due.is("HEARD", Runs.row(x, 6), "200020");
        x.way(Runs.EDGE, 2);
        due.is("FEET without the last ones", Runs.row(x, 4), "0-00--");
        StringBuilder most = new StringBuilder();
        for (int i = 0; i < 30; i++) {
            most.append("ae");
        }
        Runs.retype(x, most.toString());
        due.is("count(2)", x.count(2), 60);
        due.is("syllable(59, 1)", x.syllable(59, 1), 59);
        due.is("syllable(60, 1)", x.syllable(60, 1), -2);
    }

    private static void weigh(String text, int coda, int edge, String want) {
        BeatWords x = Runs.typed(text);
        x.way(Runs.CODA, coda);
        x.way(Runs.EDGE, edge);
        due.is("MORAS of " + text + " by " + coda + ", " + edge, Runs.row(x, 3), want);
    }

    private static void moras() {
        due.promise("promise 8, MORAS");
        weigh("strengths", 0, 0, "1");
        weigh("strengths", 1, 0, "2");
        weigh("strengths", 2, 0, "3");
        weigh("strengths", 2, 1, "3");
        weigh("an", 0, 0, "1");
        weigh("an", 1, 0, "2");
        weigh("an", 2, 0, "2");
        weigh("an", 1, 1, "1");
        weigh("an", 1, 2, "2");
        weigh("ans", 1, 1, "2");
        weigh("ans", 2, 1, "2");
        weigh("ans", 2, 0, "3");
        weigh("anta", 2, 1, "21");
        weigh("antan", 2, 1, "21");
        weigh("antan anb", 2, 1, "212");
        weigh("aan", 2, 0, "3");
        weigh("aan", 2, 1, "2");
        weigh("aa", 2, 1, "2");
        weigh("a", 2, 1, "1");
        weigh("aanks", 2, 0, "4");
        weigh("stra", 2, 0, "1");
    }

    private static void foot(String shape, int sort, int from, int rest, String feet, String beats) {
        BeatWords x = Runs.typed(Runs.shaped(shape));
        x.way(Runs.SORT, sort);
        x.way(Runs.FROM, from);
        x.way(Runs.REST, rest);
        String by = shape + " by " + sort + ", " + from + ", " + rest;
        due.is("FEET of " + by, Runs.feet(x), feet);
        due.is("BEATS of " + by, Runs.beats(x), beats);
        due.is("how many FEET of " + by, x.word(0, 2), 1 + highest(feet));
    }

    private static int highest(String feet) {
        int most = -1;
        for (int i = 0; i < feet.length(); i++) {
            if (feet.charAt(i) != '-') {
                most = Math.max(most, feet.charAt(i) - '0');
            }
        }
        return most;
    }

    private static void feet() {
        due.promise("promise 8, FEET");
        foot("LLLLL", 0, 0, 0, "0011-", "20100");
        foot("LLLLL", 0, 0, 1, "00112", "20101");
        foot("LLLLL", 0, 1, 0, "-0011", "02010");
        foot("LLLLL", 0, 1, 1, "01122", "21010");
        foot("LLLLL", 1, 0, 0, "0011-", "20100");
        foot("LLLLL", 1, 1, 1, "01122", "21010");
        foot("LLLLL", 2, 0, 0, "0011-", "02010");
        foot("LLLLL", 2, 0, 1, "00112", "02011");
        foot("LLLLL", 2, 1, 0, "-0011", "00201");
        foot("LLLLL", 2, 1, 1, "01122", "20101");
        foot("LHLLH", 0, 0, 0, "0011-", "20100");
        foot("LHLLH", 0, 0, 1, "00112", "20101");
        foot("LHLLH", 0, 1, 0, "-0011", "02010");
        foot("LHLLH", 1, 0, 0, "-0112", "02101");
        foot("LHLLH", 1, 0, 1, "01223", "21101");
        foot("LHLLH", 1, 1, 0, "-0112", "02101");
        foot("LHLLH", 2, 0, 0, "00112", "02011");
        foot("LHLLH", 2, 1, 0, "00-11", "02001");
        foot("LHLLH", 2, 1, 1, "00122", "02101");
        foot("LLL", 1, 1, 0, "-00", "020");
        foot("LLL", 1, 0, 0, "00-", "200");
        foot("HL", 2, 1, 0, "0-", "20");
        foot("HL", 2, 1, 1, "01", "21");
        foot("HL", 2, 0, 0, "0-", "20");
        foot("HL", 2, 0, 1, "01", "21");
        foot("HL", 1, 1, 0, "0-", "20");
        foot("HL", 1, 0, 0, "0-", "20");
        foot("HH", 2, 1, 0, "01", "21");
        foot("HH", 2, 0, 0, "01", "21");
        foot("HH", 1, 0, 0, "01", "21");
        foot("HH", 0, 1, 0, "00", "20");
        foot("LH", 2, 1, 0, "00", "02");
        foot("LH", 2, 0, 0, "00", "02");
        foot("LH", 1, 1, 0, "-0", "02");
        foot("LH", 1, 1, 1, "01", "21");
        foot("LH", 1, 0, 0, "-0", "02");
        for (int sort = 0; sort <= 2; sort++) {
            for (int from = 0; from <= 1; from++) {
                foot("L", sort, from, 0, "0", "2");
                foot("L", sort, from, 1, "0", "2");
                foot("H", sort, from, 0, "0", "2");
            }
        }
        BeatWords x = Runs.typed(Runs.shaped("LLL L LH LLLL"));
        x.way(Runs.EDGE, 2);
        due.is("FEET by EDGE 2", Runs.feet(x), "00-00-00--");
        x.way(Runs.SORT, 1);
        due.is("FEET by EDGE 2, SORT 1", Runs.feet(x), "00-00-00--");
        due.is("BEATS by EDGE 2, SORT 1", Runs.beats(x), "2002202000");
        x.way(Runs.MAIN, 1);
        due.is("BEATS by EDGE 2, SORT 1, MAIN 1", Runs.beats(x), "2002202000");
        x.way(Runs.FROM, 1);
        due.is("FEET by EDGE 2, SORT 1, FROM 1", Runs.feet(x), "00-00--00-");
        x.way(Runs.EDGE, 1);
        due.is("FEET by EDGE 1, SORT 1, FROM 1", Runs.feet(x), "-000-00011");
    }

    private static void main(String shape, int main, String beats) {
        BeatWords x = Runs.typed(Runs.shaped(shape));
        x.way(Runs.SORT, 1);
        x.way(Runs.MAIN, main);
        due.is("BEATS of " + shape + " by MAIN " + main, Runs.beats(x), beats);
    }

    private static void mainFoot() {
        due.promise("promise 8, MAIN FOOT");
        main("LLHLL", 0, "20110");
        main("LLHLL", 1, "10120");
        main("LLHLL", 2, "10210");
        main("LLHH", 2, "1021");
        main("HLLH", 2, "2101");
        main("LLLL", 2, "2010");
        main("LLLL", 1, "1020");
        main("LLLL LLHLL", 2, "201010210");
        BeatWords x = Runs.typed("baabaan");
        x.way(Runs.SORT, 1);
        x.way(Runs.CODA, 1);
        x.way(Runs.MAIN, 2);
        due.is("MAIN 2 of 2 and 3 MORAS", Runs.beats(x), "12");
        x.way(Runs.SORT, 2);
        Runs.retype(x, "baba ban");
        x.way(Runs.REST, 1);
        due.is("MAIN 2 of the one with the BEAT", Runs.beats(x), "022");
    }
}
