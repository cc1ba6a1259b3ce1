/** Promises 9 to 15: exceptions, clashes, what is HEARD and TOLD: a case for each boundary. */
public final class BeatsEdgesTest {
    private static final Due due = new Due();

    public static void main(String[] args) {
        Cases.run(BeatsEdgesTest.class, due);
    }

    /** The SYLLABLES of a shape (see Runs.shaped), by SORT, FROM, REST, MAIN, WINDOW. */
    private static BeatWords by(String shape, int sort, int from, int rest, int main, int window) {
        BeatWords x = Runs.typed(Runs.shaped(shape));
        int[] ways = {sort, from, rest, main, window};
        for (int i = 0; i < 5; i++) {
            x.way(Runs.SORT + i, ways[i]);
        }
        return x;
    }

    /** heard() answers MOVES, how many are STUCK, how many CLASH by FEET and as HEARD. */
    private static void heard(BeatWords x, String beats, String heard, String counts) {
        due.is("BEATS", Runs.beats(x), beats);
        due.is("HEARD of " + beats, Runs.heard(x), heard);
        due.is("heard() of " + beats, Runs.heardCounts(x), counts);
    }

    // ---- promise 9: mark

    /** LEXICON has six texts; WORD 6 has another, WORD 7 the first one again. */
    private static BeatWords sixMarked() {
        BeatWords x = Runs.typed("baba e i o u aa ee baba");
        for (int k = 0; k < 6; k++) {
            x.mark(k, 0);
        }
        return x;
    }

    static void p09_aWordThatIsNotThereIsBad() {
        Edges.bad(due, Edges::rich, "mark(k, 0)", 0, 3, (x, k) -> x.mark(k, 0));
    }

    static void p09_aSyllableThatTheWordHasNotIsBad() {
        Edges.bad(due, Edges::rich, "mark(0, j)", 0, 2, (x, j) -> x.mark(0, j));
        Edges.bad(due, Edges::rich, "mark(1, j)", 0, 3, (x, j) -> x.mark(1, j));
        Edges.bad(due, Edges::rich, "mark(2, j)", 0, 0, (x, j) -> x.mark(2, j));
        Edges.bad(due, Edges::rich, "mark(3, j)", 0, 1, (x, j) -> x.mark(3, j));
    }

    static void p09_ofNoWordsItIsBad() {
        due.is("mark(0, 0) of none", new BeatWords().mark(0, 0), -2);
        due.is("mark(0, 0) with a FLAW", Runs.typed("ba ").mark(0, 0), -2);
        BeatWords x = sixMarked();
        x.type(' ');
        due.is("mark(6, 0) with a FLAW and six texts", x.mark(6, 0), -2);
    }

    static void p09_theFirstAndTheLastSyllableAreTaken() {
        BeatWords x = Runs.typed("a bababa");
        due.is("mark(0, 0)", x.mark(0, 0), 1);
        due.is("mark(1, 0)", x.mark(1, 0), 2);
        due.is("mark(1, 2)", x.mark(1, 2), 2);
        due.is("word(1, 3)", x.word(1, 3), 3);
        due.is("mark(1, 3)", x.mark(1, 3), -2);
        due.is("marked(1)", x.marked(1), 2);
    }

    static void p09_theLastOfThirtyWordsIsTaken() {
        BeatWords x = Runs.typed(Edges.thirtyWords());
        due.is("mark(29, 0)", x.mark(29, 0), 1);
        due.is("marked(29)", x.marked(29), 0);
        due.is("marked(28)", x.marked(28), -1);
        due.is("mark(30, 0)", x.mark(30, 0), -2);
    }

    static void p09_sixTextsFit() {
        BeatWords x = Runs.typed("baba e i o u aa ee baba");
        for (int k = 0; k < 6; k++) {
            due.is("mark(" + k + ", 0)", x.mark(k, 0), k + 1);
        }
        due.is("count(5)", x.count(5), 6);
        for (int k = 0; k < 6; k++) {
            due.is("marked(" + k + ")", x.marked(k), 0);
        }
        due.is("marked(6)", x.marked(6), -1);
    }

    static void p09_theSeventhTextIsFull() {
        Edges.refused(due, BeatsEdgesTest::sixMarked, "mark(6, 0)", x -> x.mark(6, 0), -4);
    }

    static void p09_badIsAheadOfFull() {
        Edges.bad(due, BeatsEdgesTest::sixMarked, "mark(6, j) with six texts", 0, 0, (x, j) -> x.mark(6, j));
        Edges.bad(due, BeatsEdgesTest::sixMarked, "mark(k, 0) with six texts", 0, 7, (x, k) -> x.mark(k, 0));
    }

    static void p09_aTextThatIsInLexiconIsNeverFull() {
        BeatWords x = sixMarked();
        due.is("mark(0, 1)", x.mark(0, 1), 6);
        due.is("marked(0)", x.marked(0), 1);
        due.is("mark(7, 0), the same text", x.mark(7, 0), 6);
        due.is("marked(0)", x.marked(0), 0);
        due.is("mark(5, 0), as it was", x.mark(5, 0), 6);
        due.is("mark(6, 0)", x.mark(6, 0), -4);
    }

    static void p09_unmarkedThereIsRoomAgain() {
        for (int k = 0; k < 6; k++) {
            BeatWords x = sixMarked();
            due.is("unmark(" + k + ")", x.unmark(k), 5);
            due.is("mark(6, 0)", x.mark(6, 0), 6);
            due.is("mark(" + k + ", 0)", x.mark(k, 0), -4);
            for (int other = 0; other < 7; other++) {
                due.is("marked(" + other + ") behind unmark(" + k + ")", x.marked(other), other == k ? -1 : 0);
            }
        }
    }

    static void p09_theSameTextIsOne() {
        BeatWords x = Runs.typed("baba a baba");
        due.is("mark(0, 1)", x.mark(0, 1), 1);
        due.is("marked(2)", x.marked(2), 1);
        due.is("mark(2, 0)", x.mark(2, 0), 1);
        due.is("marked(0)", x.marked(0), 0);
    }

    static void p09_textsThatAreAlmostAlike() {
        // a letter less, a letter more, another first one, another last one
        BeatWords x = Runs.typed("baba bab babab daba babe baba");
        x.mark(0, 0);
        int[] want = {0, -1, -1, -1, -1, 0};
        for (int k = 0; k < 6; k++) {
            due.is("marked(" + k + ")", x.marked(k), want[k]);
            due.is("word(" + k + ", 5)", x.word(k, 5), want[k] == 0 ? 1 : 0);
        }
    }

    static void p09_textsOfOneAndOfSixtyLetters() {
        BeatWords x = Runs.typed(Edges.sixtySyllables());
        due.is("mark(0, 59) of sixty", x.mark(0, 59), 1);
        due.is("mark(0, 60) of sixty", x.mark(0, 60), -2);
        x.way(Runs.MAIN, 1);
        Runs.retype(x, "a e");
        due.is("mark(0, 0) of one", x.mark(0, 0), 2);
        due.is("marked(1)", x.marked(1), -1);
        Runs.retype(x, Edges.sixtySyllables());
        due.is("marked(0) of sixty", x.marked(0), 59);
        due.is("unmark(0) of sixty", x.unmark(0), 1);
    }

    static void p09_sixTextsOfSixtyLetters() {
        BeatWords x = new BeatWords();
        String letters = Edges.times("ba", 29);
        for (int n = 0; n < 6; n++) {
            Runs.retype(x, letters + (char) ('b' + n) + "o");
            due.is("mark(0, " + n + ")", x.mark(0, 24 + n), n + 1);
        }
        Runs.sheetOf(x, 0, letters + "zo");
        x.read(0);
        due.is("marked(0) of a seventh text", x.marked(0), -1);
        for (int n = 0; n < 6; n++) {
            x.put(0, 0, 58, 'b' + n);
            x.read(0);
            due.is("marked(0) of text " + n, x.marked(0), 24 + n);
        }
    }

    static void p09_itHoldsInAnotherText() {
        BeatWords x = Runs.typed("a baba");
        x.mark(1, 1);
        Runs.retype(x, "baba");
        due.is("word(0, 3)", x.word(0, 3), 1);
        x.wipe();
        due.is("count(5)", x.count(5), 1);
    }

    // ---- promise 9: the BEATS of a WORD in LEXICON

    private static void marked(String shape, int rest, int j, String want) {
        BeatWords x = by(shape, 0, 0, rest, 0, 0);
        x.mark(0, j);
        due.is("BEATS of " + shape + " marked " + j, Runs.beats(x), want);
    }

    static void p09_beatsJustBesideItAreNone() {
        marked("LLLLL", 1, 0, "20101");
        marked("LLLLL", 1, 1, "02001");
        marked("LLLLL", 1, 2, "10201");
        marked("LLLLL", 1, 3, "10020");
        marked("LLLLL", 1, 4, "10102");
    }

    static void p09_ofOneSyllable() {
        marked("L", 0, 0, "2");
        marked("L", 1, 0, "2");
    }

    static void p09_beatsOfOtherWordsBesideItStay() {
        BeatWords x = Runs.typed("ba baba dabada ba");
        x.mark(1, 0);
        due.is("BEATS", Runs.beats(x), "2202002");
        x.mark(1, 1);
        due.is("BEATS", Runs.beats(x), "2022002");
        x.mark(2, 2);
        due.is("BEATS", Runs.beats(x), "2021022");
    }

    static void p09_onASyllableOutsideTheFeet() {
        BeatWords x = Runs.typed("bababa");
        x.way(Runs.EDGE, 2);
        x.mark(0, 2);
        due.is("BEATS", Runs.beats(x), "102");
        due.is("FEET", Runs.feet(x), "00-");
        x.mark(0, 1);
        due.is("BEATS", Runs.beats(x), "020");
    }

    static void p09_feetStayAsTheyWere() {
        BeatWords x = by("LLLLL", 0, 0, 1, 1, 0);
        due.is("FEET", Runs.feet(x), "00112");
        x.mark(0, 1);
        due.is("FEET marked", Runs.feet(x), "00112");
        due.is("word(0, 2)", x.word(0, 2), 3);
        due.is("BEATS", Runs.beats(x), "02001");
    }

    // ---- promise 10: unmark

    static void p10_aWordThatIsNotThereIsBad() {
        Edges.bad(due, Edges::rich, "unmark", 0, 3, (x, k) -> x.unmark(k));
        Edges.bad(due, BeatsEdgesTest::sixMarked, "unmark", 0, 7, (x, k) -> x.unmark(k));
    }

    static void p10_ofNoWordsItIsBad() {
        due.is("unmark(0) of none", new BeatWords().unmark(0), -2);
        BeatWords x = Runs.typed("ba");
        x.mark(0, 0);
        x.type(' ');
        due.is("unmark(0) with a FLAW", x.unmark(0), -2);
        due.is("count(5)", x.count(5), 1);
    }

    static void p10_aTextThatIsNotInItIsNot() {
        Edges.refused(due, Edges::rich, "unmark(1)", x -> x.unmark(1), -3);
        Edges.refused(due, BeatsEdgesTest::sixMarked, "unmark(6)", x -> x.unmark(6), -3);
        due.is("unmark(0) of an empty LEXICON", Runs.typed("ba").unmark(0), -3);
    }

    static void p10_aSecondTimeItIsNot() {
        BeatWords x = Runs.typed("ba da");
        x.mark(0, 0);
        due.is("unmark(0)", x.unmark(0), 0);
        due.is("unmark(0) again", x.unmark(0), -3);
        due.is("count(5)", x.count(5), 0);
    }

    static void p10_theFirstAndTheLastOfSix() {
        BeatWords x = sixMarked();
        due.is("unmark(0)", x.unmark(0), 5);
        due.is("marked(7), the same text", x.marked(7), -1);
        due.is("unmark(7), the same text", x.unmark(7), -3);
        due.is("unmark(5)", x.unmark(5), 4);
        due.is("unmark(2)", x.unmark(2), 3);
        for (int k : new int[] {1, 3, 4}) {
            due.is("marked(" + k + ")", x.marked(k), 0);
        }
        due.is("unmark(1)", x.unmark(1), 2);
        due.is("unmark(4)", x.unmark(4), 1);
        due.is("unmark(3)", x.unmark(3), 0);
    }

    static void p10_othersKeepTheirSyllables() {
        BeatWords x = Runs.typed("baba bababa babababa a");
        x.mark(0, 1);
        x.mark(1, 2);
        x.mark(2, 3);
        x.unmark(0);
        due.is("marked(1)", x.marked(1), 2);
        due.is("marked(2)", x.marked(2), 3);
        due.is("BEATS", Runs.beats(x), "2010210022");
        x.mark(3, 0);
        x.unmark(1);
        due.is("marked(2)", x.marked(2), 3);
        due.is("marked(3)", x.marked(3), 0);
    }

    static void p10_aTextWithASyllableThatItHasNotNow() {
        BeatWords x = Runs.typed("bai");
        x.mark(0, 1);
        x.way(Runs.TWINS, 1);
        due.is("unmark(0)", x.unmark(0), 0);
        x.way(Runs.TWINS, 0);
        due.is("marked(0)", x.marked(0), -1);
    }

    // ---- promise 11: marked

    static void p11_aWordThatIsNotThereIsBad() {
        Edges.bad(due, Edges::rich, "marked", 0, 3, (x, k) -> x.marked(k));
    }

    static void p11_ofNoWordsItIsBad() {
        due.is("marked(0) of none", new BeatWords().marked(0), -2);
        BeatWords x = Runs.typed("ba");
        x.mark(0, 0);
        x.type('.');
        due.is("marked(0) with a FLAW", x.marked(0), -2);
    }

    static void p11_notInLexiconItIsNone() {
        due.is("marked(0)", Runs.typed("ba").marked(0), -1);
        due.is("marked(1)", Edges.rich().marked(1), -1);
    }

    static void p11_theFirstSyllableIsNotNone() {
        BeatWords x = Runs.typed("ba da");
        x.mark(0, 0);
        due.is("marked(0)", x.marked(0), 0);
        due.is("marked(1)", x.marked(1), -1);
    }

    static void p11_aSyllableThatItHasNotNow() {
        BeatWords x = Runs.typed("bai");
        x.mark(0, 1);
        x.way(Runs.TWINS, 1);
        due.is("count(2)", x.count(2), 1);
        due.is("marked(0)", x.marked(0), 1);
    }

    // ---- promise 12: clash

    /** Two SYLLABLES with BEATS of two WORDS, so many apart. */
    private static BeatWords apart(int n, int window) {
        BeatWords x = by(Edges.times("L", n) + " L", 0, 0, 0, 0, window);
        x.way(Runs.EDGE, n == 4 ? 2 : 0);
        due.is("BEATS", Runs.beats(x), "2" + Edges.times("0", n - 1) + "2");
        return x;
    }

    static void p12_twoThatClashAreAtMostWindowApart() {
        for (int window = 0; window <= 3; window++) {
            for (int n = 1; n <= 4; n++) {
                BeatWords x = apart(n, window);
                String told = n + " apart by WINDOW " + window;
                due.is("heard(2), " + told, x.heard(2), n <= window ? 1 : 0);
                due.is("clash(0), " + told, x.clash(0), n <= window ? 0 : -2);
                due.is("clash(1), " + told, x.clash(1), -2);
            }
        }
    }

    static void p12_noSuchTwoIsBad() {
        Edges.Maker three = () -> by("HHHH", 1, 0, 0, 0, 1);
        Edges.bad(due, three, "clash", 0, 2, (x, k) -> x.clash(k));
        Edges.bad(due, () -> by("HHHH", 1, 0, 0, 0, 0), "clash", 0, -1, (x, k) -> x.clash(k));
        for (int k = 0; k <= 2; k++) {
            due.is("clash(" + k + ")", three.make().clash(k), k);
        }
    }

    static void p12_ofNoneEachIsBad() {
        BeatWords x = new BeatWords();
        x.way(Runs.WINDOW, 3);
        due.is("clash(0) of no text", x.clash(0), -2);
        Runs.type(x, "a");
        due.is("clash(0) of one SYLLABLE", x.clash(0), -2);
        Runs.type(x, " a");
        due.is("clash(0) of two", x.clash(0), 0);
        Runs.type(x, " ");
        due.is("clash(0) with a FLAW", x.clash(0), -2);
    }

    static void p12_noneStandsBetweenThem() {
        BeatWords x = by("HHH", 1, 0, 0, 0, 2);
        due.is("BEATS", Runs.beats(x), "211");
        due.is("heard(2)", x.heard(2), 2);
        due.is("clash(0)", x.clash(0), 0);
        due.is("clash(1)", x.clash(1), 1);
        due.is("clash(2)", x.clash(2), -2);
    }

    static void p12_theyAreByFeetNotAsHeard() {
        BeatWords x = by("HHH", 1, 0, 0, 0, 1);
        due.is("HEARD", Runs.heard(x), "201");
        due.is("clash(1)", x.clash(1), 1);
        due.is("heard(3)", x.heard(3), 0);
    }

    static void p12_theyAreByLexiconToo() {
        BeatWords x = Runs.typed("baba da");
        x.way(Runs.WINDOW, 1);
        due.is("clash(0)", x.clash(0), -2);
        x.mark(0, 1);
        due.is("clash(0) marked", x.clash(0), 1);
    }

    static void p12_thirtyWordsOfOneBeatEach() {
        BeatWords x = Runs.typed(Edges.thirtyWords());
        x.way(Runs.WINDOW, 1);
        due.is("clash(28)", x.clash(28), 28);
        due.is("clash(29)", x.clash(29), -2);
        due.is("heard()", Runs.heardCounts(x), "0 29 29 29");
    }

    // ---- promise 13: heard

    static void p13_whatIsNotToldIsBad() {
        Edges.bad(due, Edges::rich, "heard", 0, 3, (x, what) -> x.heard(what));
        Edges.bad(due, BeatWords::new, "heard", 0, 3, (x, what) -> x.heard(what));
    }

    static void p13_ofNoneAllAreNone() {
        BeatWords x = new BeatWords();
        x.way(Runs.WINDOW, 3);
        due.is("heard() of no text", Runs.heardCounts(x), "0 0 0 0");
        Runs.type(x, "a");
        due.is("heard() of one SYLLABLE", Runs.heardCounts(x), "0 0 0 0");
        Runs.type(x, " a ");
        due.is("heard() with a FLAW", Runs.heardCounts(x), "0 0 0 0");
    }

    static void p13_byWindow0NoneClash() {
        heard(by("HHHH", 1, 0, 0, 0, 0), "2111", "2111", "0 0 0 0");
        heard(by("H H", 1, 0, 0, 0, 0), "22", "22", "0 0 0 0");
    }

    static void p13_oneApartMoreThanWindowStays() {
        heard(by("LLLL", 0, 0, 0, 0, 1), "2010", "2010", "0 0 0 0");
        heard(by("LLLL", 0, 0, 0, 0, 2), "2010", "2000", "1 0 1 0");
        heard(by("LLL LLL", 0, 0, 0, 0, 2), "200200", "200200", "0 0 0 0");
        heard(by("LLL LLL", 0, 0, 0, 0, 3), "200200", "200200", "0 1 1 1");
    }

    static void p13_theLesserOneBecomesNone() {
        heard(by("HH", 1, 0, 0, 0, 1), "21", "20", "1 0 1 0");
        heard(by("HH", 1, 0, 0, 1, 1), "12", "02", "1 0 1 0");
    }

    static void p13_ofTwoOnesTheFirst() {
        heard(by("HHH", 1, 0, 0, 1, 1), "112", "002", "2 0 2 0");
        heard(by("HLHHH", 1, 0, 0, 0, 1), "20111", "20001", "2 0 2 0");
        heard(by("HLLHH", 1, 0, 0, 0, 1), "21011", "20001", "2 0 2 0");
        heard(by("LLHHL", 1, 0, 0, 0, 1), "20110", "20010", "1 0 1 0");
    }

    static void p13_theFirstTwoComeFirst() {
        // were the last two first, 0102 would be left
        heard(by("HHHH", 1, 0, 0, 1, 1), "1112", "0002", "3 0 3 0");
    }

    static void p13_ofTwoMainsTheFirstMovesAhead() {
        heard(by("LLLL L", 2, 0, 0, 1, 1), "01022", "02002", "1 0 1 0");
    }

    static void p13_itMovesToTheNearestAhead() {
        heard(by("LLLLLL L", 2, 0, 0, 1, 1), "0101022", "0102002", "1 0 1 0");
    }

    static void p13_withoutOneAheadTheSecondMovesBehind() {
        heard(by("L LLLL", 0, 0, 0, 0, 1), "22010", "20020", "1 0 1 0");
    }

    static void p13_itMovesToTheNearestBehind() {
        heard(by("L LLLLLL", 0, 0, 0, 0, 1), "2201010", "2002010", "1 0 1 0");
    }

    static void p13_aheadComesBeforeBehind() {
        BeatWords x = Runs.typed("babababa dadadada");
        x.way(Runs.SORT, 2);
        x.way(Runs.MAIN, 1);
        x.way(Runs.WINDOW, 1);
        x.mark(1, 0);
        heard(x, "01022001", "02002001", "1 0 1 0");
    }

    static void p13_itMovesToTheFirstSyllableOfItsWord() {
        heard(by("LLL L", 0, 0, 1, 1, 1), "1022", "2002", "1 0 1 0");
    }

    static void p13_itMovesToTheLastSyllableOfItsWord() {
        heard(by("L LLL", 0, 0, 1, 0, 1), "2201", "2002", "1 0 1 0");
    }

    static void p13_aOneOfAnotherWordIsNotTaken() {
        heard(by("LLLL L L", 0, 0, 0, 0, 1), "201022", "201022", "0 1 1 1");
        heard(by("L L LLLL", 0, 0, 0, 0, 1), "222010", "220020", "1 1 2 1");
    }

    static void p13_aOneAtTheEndOfTheWordAheadIsNotTaken() {
        BeatWords x = Runs.typed("bababa dada ga");
        x.way(Runs.REST, 1);
        x.way(Runs.WINDOW, 1);
        x.mark(1, 1);
        heard(x, "201022", "201022", "0 1 1 1");
    }

    static void p13_aOneAtTheBeginningOfTheWordBehindIsNotTaken() {
        heard(by("L LL LLL", 0, 0, 1, 1, 1), "220102", "220102", "0 1 1 1");
    }

    static void p13_askedAgainBehindAChange() {
        BeatWords x = by("H H H", 1, 0, 0, 0, 1);
        due.is("heard() by WINDOW 1", Runs.heardCounts(x), "0 2 2 2");
        x.way(Runs.CODA, 1);
        due.is("heard() behind another way", Runs.heardCounts(x), "0 2 2 2");
        x.way(Runs.WINDOW, 0);
        due.is("heard() by WINDOW 0", Runs.heardCounts(x), "0 0 0 0");
        x.way(Runs.WINDOW, 1);
        due.is("heard() by WINDOW 1 again", Runs.heardCounts(x), "0 2 2 2");
    }

    static void p13_withoutOneTheyAreStuck() {
        heard(by("L L", 0, 0, 0, 0, 1), "22", "22", "0 1 1 1");
        heard(by("LL LL", 0, 0, 0, 0, 2), "2020", "2020", "0 1 1 1");
        heard(by("L L L", 0, 0, 0, 0, 3), "222", "222", "0 2 2 2");
    }

    static void p13_theFirstThatAreNotStuck() {
        heard(by("L L HHH", 1, 0, 0, 0, 1), "22211", "22020", "2 1 4 1");
    }

    static void p13_whatHasMovedCanClashAgain() {
        heard(by("L LLL", 0, 0, 1, 0, 3), "2201", "2002", "1 1 2 1");
        heard(by("L LLL L", 0, 0, 1, 0, 1), "22012", "20022", "1 1 2 1");
        heard(by("L LLLLL", 0, 0, 1, 0, 3), "220101", "200002", "2 0 3 0");
    }

    static void p13_twoThatComeToClashByAMove() {
        // 2 and 2 are left alone by the 1 between them, until it is gone
        heard(by("HH H", 1, 0, 0, 0, 2), "212", "202", "1 1 2 1");
    }

    static void p13_movesOfSixtySyllables() {
        BeatWords x = Runs.typed(Edges.sixtySyllables());
        x.way(Runs.WINDOW, 2);
        due.is("heard()", Runs.heardCounts(x), "28 0 29 0");
        due.is("count(6)", x.count(6), 2);
        due.is("syllable(58, 6)", x.syllable(58, 6), 1);
        x.way(Runs.MAIN, 1);
        due.is("heard() by MAIN 1", Runs.heardCounts(x), "29 0 29 0");
        due.is("count(6)", x.count(6), 1);
        due.is("word(0, 4)", x.word(0, 4), 58);
    }

    static void p13_movesOfHeavyOnes() {
        BeatWords x = by("HHHHHHHHHHHHHHHHHHHH", 1, 0, 0, 0, 1);
        due.is("heard()", Runs.heardCounts(x), "18 0 19 0");
        due.is("HEARD", Runs.heard(x), "2" + Edges.times("0", 18) + "1");
    }

    // ---- promise 14: tell

    static void p14_aSyllableThatIsNotThereIsBad() {
        Edges.bad(due, Edges::rich, "tell(k, 1)", 0, 9, (x, k) -> x.tell(k, 1));
        Edges.bad(due, Edges::rich, "tell(k, 0)", 0, 9, (x, k) -> x.tell(k, 0));
    }

    static void p14_aBeatThatIsNoneOfThemIsBad() {
        Edges.bad(due, Edges::rich, "tell(1, beat)", 0, 2, (x, beat) -> x.tell(1, beat));
        Edges.bad(due, Edges::rich, "tell(9, beat)", 0, 2, (x, beat) -> x.tell(9, beat));
    }

    static void p14_bothOutOfBoundsIsBad() {
        Edges.refused(due, Edges::rich, "tell(-1, 3)", x -> x.tell(-1, 3), -2);
        Edges.refused(due, Edges::rich, "tell(10, -1)", x -> x.tell(10, -1), -2);
    }

    static void p14_ofNoSyllablesItIsBad() {
        due.is("tell(0, 0) of none", new BeatWords().tell(0, 0), -2);
        due.is("tell(0, 1) with a FLAW", Runs.typed("ba ").tell(0, 1), -2);
    }

    static void p14_eachBeatIsTaken() {
        BeatWords x = Runs.typed("ba");
        int was = 0;
        for (int beat : new int[] {0, 2, 2, 1, 1, 0, 1, 2, 0}) {
            due.is("tell(0, " + beat + ")", x.tell(0, beat), was);
            due.is("syllable(0, 7)", x.syllable(0, 7), beat);
            was = beat;
        }
    }

    static void p14_theLastOfSixtySyllables() {
        BeatWords x = Runs.typed(Edges.sixtySyllables());
        due.is("tell(59, 2)", x.tell(59, 2), 0);
        due.is("tell(59, 1)", x.tell(59, 1), 2);
        due.is("tell(60, 1)", x.tell(60, 1), -2);
        due.is("syllable(59, 7)", x.syllable(59, 7), 1);
        due.is("syllable(58, 7)", x.syllable(58, 7), 0);
    }

    static void p14_itChangesNoOther() {
        BeatWords x = Runs.typed("bababa");
        Runs.tell(x, "121");
        due.is("told", Runs.told(x), "121");
        x.tell(1, 0);
        due.is("told behind tell(1, 0)", Runs.told(x), "101");
        x.tell(2, 2);
        due.is("told behind tell(2, 2)", Runs.told(x), "102");
        due.is("HEARD", Runs.heard(x), "200");
        due.is("BEATS", Runs.beats(x), "200");
    }

    static void p14_outOfSightItIsBad() {
        BeatWords x = Runs.typed("bai");
        due.is("tell(1, 2)", x.tell(1, 2), 0);
        x.way(Runs.TWINS, 1);
        due.is("tell(1, 1) of one SYLLABLE", x.tell(1, 1), -2);
        x.way(Runs.TWINS, 0);
        due.is("tell(1, 0) of two again", x.tell(1, 0), 2);
    }

    // ---- promise 15: copyHeard

    static void p15_ofNoSyllablesItIsNone() {
        due.is("copyHeard() of none", new BeatWords().copyHeard(), 0);
        due.is("copyHeard() with a FLAW", Runs.typed("ba ").copyHeard(), 0);
    }

    static void p15_ofOneSyllable() {
        BeatWords x = Runs.typed("a");
        due.is("copyHeard()", x.copyHeard(), 1);
        due.is("told", Runs.told(x), "2");
    }

    static void p15_ofSixtySyllables() {
        BeatWords x = Runs.typed(Edges.sixtySyllables());
        due.is("copyHeard()", x.copyHeard(), 30);
        due.is("syllable(58, 7)", x.syllable(58, 7), 1);
        due.is("syllable(59, 7)", x.syllable(59, 7), 0);
        due.is("near()", x.near(), 60);
    }

    static void p15_toldBeatsBecomeNoneToo() {
        BeatWords x = Runs.typed("bababa");
        Runs.tell(x, "122");
        due.is("copyHeard()", x.copyHeard(), 1);
        due.is("told", Runs.told(x), "200");
    }

    static void p15_itIsAsHeardNotByFeet() {
        BeatWords x = by("HH", 1, 0, 0, 0, 1);
        due.is("copyHeard()", x.copyHeard(), 1);
        due.is("told", Runs.told(x), "20");
    }

    static void p15_toldOutOfSightAreLeft() {
        BeatWords x = Runs.typed("baibai");
        Runs.tell(x, "1121");
        due.is("HEARD of four", Runs.heard(x), "2010");
        x.way(Runs.TWINS, 1);
        due.is("copyHeard() of two", x.copyHeard(), 1);
        x.way(Runs.TWINS, 0);
        due.is("told of four", Runs.told(x), "2021");
    }

    static void p15_aSecondTimeItChangesNothing() {
        BeatWords x = Edges.rich();
        x.copyHeard();
        String before = Edges.all(x);
        x = Edges.rich();
        x.copyHeard();
        due.is("copyHeard() again", x.copyHeard(), x.count(6));
        due.is("all", Edges.all(x), before);
    }
}
