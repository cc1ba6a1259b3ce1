/** Promises 16 to 20: NEAR, NEAREST, shares, the BEATS as text: a case for each boundary. */
public final class NearEdgesTest {
    private static final Due due = new Due();

    public static void main(String[] args) {
        Cases.run(NearEdgesTest.class, due);
    }

    /** A text with a FLAW, by WAYS that are not the first. */
    private static BeatWords flawed() {
        BeatWords x = Edges.rich();
        x.type(' ');
        return x;
    }

    private static BeatWords told(String shape, String told) {
        BeatWords x = Runs.typed(Runs.shaped(shape));
        Runs.tell(x, told);
        return x;
    }

    // ---- promise 16: near

    static void p16_ofNoSyllablesItIsNone() {
        due.is("near() of none", new BeatWords().near(), 0);
        due.is("near() with a FLAW", flawed().near(), 0);
    }

    static void p16_ofOneSyllable() {
        BeatWords x = Runs.typed("a");
        due.is("near()", x.near(), 0);
        x.tell(0, 1);
        due.is("near() of a lesser BEAT", x.near(), 0);
        x.tell(0, 2);
        due.is("near() of its BEAT", x.near(), 1);
    }

    static void p16_noneOfThemAndAllOfThem() {
        due.is("near() of 20 told 00", told("LL", "00").near(), 1);
        due.is("near() of 20 told 01", told("LL", "01").near(), 0);
        due.is("near() of 20 told 20", told("LL", "20").near(), 2);
    }

    static void p16_ofSixtySyllables() {
        BeatWords x = Runs.typed(Edges.sixtySyllables());
        due.is("near() of none told", x.near(), 30);
        x.copyHeard();
        due.is("near() of all", x.near(), 60);
        x.tell(59, 1);
        due.is("near() without the last", x.near(), 59);
        x.tell(0, 1);
        due.is("near() without the first", x.near(), 58);
    }

    static void p16_toldOutOfSightAreNotCounted() {
        BeatWords x = Runs.typed("bai");
        x.copyHeard();
        due.is("near() of two", x.near(), 2);
        x.way(Runs.TWINS, 1);
        due.is("near() of one", x.near(), 1);
    }

    static void p16_itIsAsHeardNotByFeet() {
        BeatWords x = told("HH", "20");
        x.way(Runs.SORT, 1);
        due.is("near() of 21", x.near(), 1);
        x.way(Runs.WINDOW, 1);
        due.is("near() of 20", x.near(), 2);
    }

    // ---- promise 17: nearest

    static void p17_whatIsNotToldIsBad() {
        Edges.bad(due, Edges::rich, "nearest", 0, 4, (x, what) -> x.nearest(what));
        Edges.bad(due, BeatWords::new, "nearest", 0, 4, (x, what) -> x.nearest(what));
    }

    static void p17_ofNoSyllablesTheLeastWays() {
        due.is("nearest() of none", Runs.nearest(new BeatWords()), "0 0 0 0 0");
        due.is("nearest() with a FLAW", Runs.nearest(flawed()), "0 0 0 0 0");
    }

    static void p17_itChangesNothing() {
        String before = Edges.all(Edges.rich());
        BeatWords x = Edges.rich();
        for (int what = 0; what <= 4; what++) {
            x.nearest(what);
        }
        due.is("all", Edges.all(x), before);
    }

    private static void nearest(String shape, String told, String want) {
        due.is("nearest() of " + shape + " told " + told, Runs.nearest(told(shape, told)), want);
        BeatWords x = told(shape, told);
        int[] most = {2, 1, 1, 2};
        for (int i = 0; i < 4; i++) {
            x.way(Runs.SORT + i, most[i]);
        }
        due.is("nearest() of " + shape + " told " + told + ", by other WAYS", Runs.nearest(x), want);
    }

    static void p17_ofLikeOnesTheLeastOfAll() {
        nearest("L", "2", "0 0 0 0 1");
        nearest("L", "0", "0 0 0 0 0");
        nearest("LL", "20", "0 0 0 0 2");
        nearest("LLL", "200", "0 0 0 0 3");
    }

    static void p17_theLeastSortComesBeforeFrom() {
        // SORT 2 has it with FROM 0, SORT 0 with FROM 1 alone
        nearest("LLL", "020", "0 1 0 0 3");
    }

    static void p17_theLeastSortComesBeforeRestAndMain() {
        // SORT 1 is as SORT 0 of LIGHT ones; SORT 2 has it with FROM 1
        nearest("LLL", "201", "0 0 1 0 3");
        nearest("LLL", "102", "0 0 1 1 3");
    }

    static void p17_theLeastFromComesBeforeRest() {
        // FROM 0 has it with REST 1 (20101), FROM 1 with REST 0 (01020)
        nearest("LLLLL", "21221", "0 0 1 0 2");
    }

    static void p17_theLeastRestComesBeforeMain() {
        // REST 0 has it with MAIN 1 (01020), REST 1 with MAIN 0 (21010)
        nearest("LLLLL", "21020", "0 1 0 1 4");
    }

    static void p17_theLeastMain() {
        // MAIN 1 and MAIN 2 have it, MAIN 0 has not
        nearest("LLH", "102", "0 0 1 1 3");
        nearest("LLLL", "2010", "0 0 0 0 4");
        nearest("LLLL", "1020", "0 0 0 1 4");
    }

    static void p17_theGreatestOfEachWay() {
        nearest("LLL", "002", "2 1 0 0 3");
        nearest("LLL", "120", "0 1 1 1 3");
        nearest("LLL", "012", "2 0 1 1 3");
        nearest("LLHLL", "10210", "1 0 0 2 5");
    }

    static void p17_otherWaysAreAsTheyAre() {
        BeatWords x = told("LLL", "002");
        x.way(Runs.EDGE, 2);
        due.is("nearest() by EDGE 2", Runs.nearest(x), "0 0 0 0 1");
        x = told("LLLLL", "00020");
        due.is("nearest() by WINDOW 0", Runs.nearest(x), "0 1 0 1 4");
        x.way(Runs.WINDOW, 3);
        due.is("nearest() by WINDOW 3", Runs.nearest(x), "0 1 0 1 5");
        x = Runs.typed("banba");
        Runs.tell(x, "21");
        due.is("nearest() by CODA 0", Runs.nearest(x), "0 0 0 0 1");
        x.way(Runs.CODA, 1);
        due.is("nearest() by CODA 1", Runs.nearest(x), "1 0 1 0 2");
    }

    static void p17_lexiconIsAsItIs() {
        BeatWords x = told("LLL", "012");
        x.mark(0, 2);
        due.is("nearest() marked", Runs.nearest(x), "0 1 0 0 2");
        x.unmark(0);
        due.is("nearest() unmarked", Runs.nearest(x), "2 0 1 1 3");
    }

    /** What is HEARD of it is another by each of the 36 ways of SORT, FROM, REST, MAIN. */
    private static final String UNLIKE = "LLLHLL LLL LLHL";

    private static BeatWords unlike(int number) {
        BeatWords x = Runs.typed(Runs.shaped(UNLIKE));
        x.way(Runs.SORT, number / 12);
        x.way(Runs.FROM, number / 6 % 2);
        x.way(Runs.REST, number / 3 % 2);
        x.way(Runs.MAIN, number % 3);
        x.copyHeard();
        return x;
    }

    private static String told(int number) {
        return number / 12 + " " + number / 6 % 2 + " " + number / 3 % 2 + " " + number % 3 + " 13";
    }

    static void p17_eachOfAllWaysCanBeIt() {
        for (int number = 0; number < 36; number++) {
            BeatWords x = unlike(number);
            x.way(Runs.SORT, (number / 12 + 1) % 3);
            x.way(Runs.MAIN, (number + 1) % 3);
            due.is("nearest() of way " + number, Runs.nearest(x), told(number));
        }
    }

    /** The way with most NEAR, and how near, as way() and near() tell them of each of the 36. */
    private static String mostOfAll(BeatWords x) {
        int most = -1;
        String best = "";
        for (int number = 0; number < 36; number++) {
            int[] ways = {number / 12, number / 6 % 2, number / 3 % 2, number % 3};
            for (int i = 0; i < 4; i++) {
                x.way(Runs.SORT + i, ways[i]);
            }
            int near = x.near();
            if (near > most) {
                most = near;
                best = ways[0] + " " + ways[1] + " " + ways[2] + " " + ways[3] + " " + near;
            }
        }
        return best;
    }

    static void p17_noWayButThe36() {
        for (String shape : new String[] {"L", "HL", "LHL", "LLHL", "LHHLH"}) {
            int all = (int) Math.pow(3, shape.length());
            for (int number = 0; number < all; number++) {
                StringBuilder beats = new StringBuilder();
                for (int k = 0, rest = number; k < shape.length(); k++, rest /= 3) {
                    beats.append(rest % 3);
                }
                BeatWords x = told(shape, beats.toString());
                due.is("nearest() of " + shape + " told " + beats, Runs.nearest(x), mostOfAll(x));
            }
        }
    }

    static void p17_askedAgainBehindAChange() {
        BeatWords x = Runs.typed("bababa");
        due.is("nearest()", Runs.nearest(x), "0 0 0 0 2");
        x.tell(2, 2);
        due.is("nearest() behind tell()", Runs.nearest(x), "2 1 0 0 3");
        x.copyHeard();
        due.is("nearest() behind copyHeard()", Runs.nearest(x), "0 0 0 0 3");
        x.way(Runs.FROM, 1);
        x.copyHeard();
        due.is("nearest() behind another copyHeard()", Runs.nearest(x), "0 1 0 0 3");
        x.way(Runs.EDGE, 2);
        due.is("nearest() behind way()", Runs.nearest(x), "2 0 0 0 3");
        x.mark(0, 2);
        due.is("nearest() behind mark()", Runs.nearest(x), "2 0 0 0 1");
        x.unmark(0);
        due.is("nearest() behind unmark()", Runs.nearest(x), "2 0 0 0 3");
        x.learn();
        due.is("nearest() behind learn()", Runs.nearest(x), "2 0 0 0 3");
        x.type('n');
        due.is("nearest() behind type()", Runs.nearest(x), "0 0 0 0 2");
        x.wipe();
        due.is("nearest() behind wipe()", Runs.nearest(x), "0 0 0 0 0");
    }

    static void p17_ofSixtySyllables() {
        BeatWords x = Runs.typed(Edges.sixtySyllables());
        x.way(Runs.SORT, 2);
        x.way(Runs.MAIN, 1);
        x.copyHeard();
        due.is("nearest()", Runs.nearest(x), "2 0 0 1 60");
    }

    // ---- promise 18: learn

    private static String ways(BeatWords x) {
        StringBuilder ways = new StringBuilder();
        int[] first = {0, 1, 0, 0, 0, 0, 0, 0, 0};
        for (int k = 0; k < 9; k++) {
            ways.append(x.way(k, first[k]));
        }
        return ways.toString();
    }

    static void p18_ofNoSyllablesTheLeastWays() {
        BeatWords x = new BeatWords();
        due.is("learn() of none", x.learn(), 0);
        due.is("WAYS", ways(x), "010000000");
        x = flawed();
        due.is("learn() with a FLAW", x.learn(), 0);
        due.is("WAYS behind a FLAW", ways(x), "121100002");
    }

    static void p18_ofOneSyllable() {
        BeatWords x = Runs.typed("a");
        x.way(Runs.MAIN, 2);
        due.is("learn() untold", x.learn(), 0);
        x.tell(0, 2);
        due.is("learn() told", x.learn(), 1);
        due.is("WAYS", ways(x), "010000000");
    }

    static void p18_otherWaysAreLeft() {
        BeatWords x = Runs.typed("babababa");
        int[] ways = {1, 2, 2, 2, 2, 1, 1, 2, 3};
        for (int k = 0; k < 9; k++) {
            x.way(k, ways[k]);
        }
        Runs.tell(x, "2000");
        due.is("learn()", x.learn(), 4);
        due.is("WAYS", ways(x), "122200003");
    }

    static void p18_eachOfAllWaysCanBeLearned() {
        for (int number = 0; number < 36; number++) {
            BeatWords x = unlike(number);
            for (int k = Runs.SORT; k <= Runs.MAIN; k++) {
                x.way(k, number % 2);
            }
            due.is("learn() of way " + number, x.learn(), 13);
            due.is("near() of way " + number, x.near(), 13);
            due.is("WAYS of way " + number, ways(x).substring(4, 8), told(number).replace(" ", "").substring(0, 4));
        }
    }

    static void p18_toldAndLexiconAreLeft() {
        BeatWords x = told("LLL", "012");
        Runs.type(x, " da");
        Runs.tell(x, "0122");
        x.mark(1, 0);
        due.is("learn()", x.learn(), 4);
        due.is("told", Runs.told(x), "0122");
        due.is("HEARD", Runs.heard(x), "0122");
        due.is("count(5)", x.count(5), 1);
    }

    static void p18_nearIsWhatItAnswered() {
        for (String beats : new String[] {"000", "002", "111", "222", "120", "021"}) {
            BeatWords x = told("LLL", beats);
            int nearest = x.nearest(4);
            due.is("learn() told " + beats, x.learn(), nearest);
            due.is("near() told " + beats, x.near(), nearest);
            due.is("learn() again told " + beats, x.learn(), nearest);
        }
    }

    // ---- promise 19: share

    static void p19_whatIsNotToldIsNone() {
        for (int what : Edges.outside(0, 2)) {
            Edges.refused(due, Edges::rich, "share(" + what + ")", x -> x.share(what), 0);
        }
    }

    static void p19_withoutSyllablesItIsNone() {
        for (int what = 0; what <= 2; what++) {
            due.is("share(" + what + ") of none", new BeatWords().share(what), 0);
            due.is("share(" + what + ") with a FLAW", flawed().share(what), 0);
        }
    }

    static void p19_noneOfThem() {
        due.is("share(0)", Runs.typed("ba").share(0), 0);
        due.is("share(1)", Runs.typed("ba").share(1), 0);
    }

    static void p19_allOfThem() {
        BeatWords x = Runs.typed("baa");
        x.tell(0, 2);
        for (int what = 0; what <= 2; what++) {
            due.is("share(" + what + ")", x.share(what), 0x3f800000);
        }
    }

    static void p19_dividedAsFloats() {
        BeatWords x = told("LLH", "001");
        due.is("share(0) of 0 by 3", told("LLH", "011").share(0), 0);
        due.is("share(0) of 2 by 3", told("LLH", "000").share(0), 0x3f2aaaab);
        due.is("share(0) of 1 by 3", x.share(0), 0x3eaaaaab);
        due.is("share(1) of 1 by 3", x.share(1), 0x3eaaaaab);
        due.is("share(2) of 1 by 4", x.share(2), 0x3e800000);
    }

    static void p19_eachPartOfSixtySyllables() {
        BeatWords x = Runs.typed(Edges.sixtySyllables());
        x.copyHeard();
        for (int part = 60; part >= 0; part--) {
            due.is("share(0) of " + part, x.share(0), Float.floatToIntBits((float) part / (float) 60));
            if (part > 0) {
                x.tell(60 - part, part % 2 == 0 ? 0 : 1);
            }
            if (part == 60) {
                x.tell(0, 1);
            }
        }
    }

    static void p19_heavyIsTwoMoras() {
        BeatWords x = Runs.typed("ba ban bant baa baan");
        due.is("share(1) by CODA 0", x.share(1), Float.floatToIntBits(2f / 5f));
        x.way(Runs.CODA, 1);
        due.is("share(1) by CODA 1", x.share(1), Float.floatToIntBits(4f / 5f));
        x.way(Runs.CODA, 2);
        due.is("share(1) by CODA 2", x.share(1), Float.floatToIntBits(4f / 5f));
        due.is("share(2) by CODA 2", x.share(2), 0x3f800000);
    }

    static void p19_morasOfTheBeatsThatAreHeard() {
        BeatWords x = Runs.typed("baaba");
        x.way(Runs.SORT, 1);
        x.way(Runs.REST, 1);
        due.is("share(2) of all", x.share(2), 0x3f800000);
        x.way(Runs.WINDOW, 1);
        due.is("share(2) of 2 by 3", x.share(2), 0x3f2aaaab);
    }

    // ---- promise 20: text

    private static void shown(String text, String want, int... ways) {
        BeatWords x = Runs.typed(text);
        for (int i = 0; i + 1 < ways.length; i += 2) {
            x.way(ways[i], ways[i + 1]);
        }
        due.is("text(NONE) of <" + text + ">", x.text(BeatWords.NONE), want.length());
        for (int n = 0; n < want.length(); n++) {
            due.is("text(" + n + ") of <" + text + ">", x.text(n), want.charAt(n));
        }
        due.is("text(" + want.length() + ") of <" + text + ">", x.text(want.length()), -2);
    }

    static void p20_aByteThatIsNotThereIsBad() {
        int size = Edges.rich().text(-1);
        Edges.bad(due, Edges::rich, "text", -1, size - 1, (x, n) -> x.text(n));
        Edges.bad(due, () -> Runs.typed("a"), "text of <a>", -1, 1, (x, n) -> x.text(n));
        Edges.bad(due, BeatWords::new, "text of none", -1, -1, (x, n) -> x.text(n));
    }

    static void p20_withoutBytes() {
        due.is("text(NONE) of none", new BeatWords().text(-1), 0);
        due.is("text(0) of none", new BeatWords().text(0), -2);
    }

    static void p20_withAFlawThereAreNoBytes() {
        due.is("text(NONE)", flawed().text(-1), 0);
        due.is("text(0)", flawed().text(0), -2);
        shown("ba.", "");
        shown("ba b", "");
        shown(" ba", "");
    }

    static void p20_ofOneByte() {
        shown("a", "'a");
    }

    static void p20_ofOneSyllable() {
        shown("strengths", "'strengths");
    }

    static void p20_eachBeat() {
        shown("bababababa", "'ba.ba.,ba.ba.,ba", Runs.REST, 1);
        shown("bababababa", ",ba.ba.,ba.ba.'ba", Runs.REST, 1, Runs.MAIN, 1);
        shown("bababa", "ba.'ba.ba", Runs.FROM, 1);
    }

    static void p20_betweenWordsThereIsNoFullStop() {
        shown("ba ba", "'ba 'ba");
        shown("a baba a", "'a 'ba.ba 'a");
        shown("baba baba", "ba.'ba ba.'ba", Runs.SORT, 2);
    }

    static void p20_itIsAsHeardNotByFeet() {
        shown("baabaa", "'baa.,baa", Runs.SORT, 1);
        shown("baabaa", "'baa.baa", Runs.SORT, 1, Runs.WINDOW, 1);
    }

    static void p20_ofThirtyWords() {
        shown(Edges.thirtyWords(), Edges.times("'a ", 29) + "'aa");
    }

    static void p20_ofSixtySyllables() {
        shown(Edges.sixtySyllables(), "'a.e" + Edges.times(".,a.e", 29));
        due.is("text(NONE)", Runs.typed(Edges.sixtySyllables()).text(-1), 149);
    }
}
