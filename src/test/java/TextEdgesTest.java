/** Promises 1 to 6: each boundary case that the document names has a case of its own. */
public final class TextEdgesTest {
    private static final Due due = new Due();
    private static final int LEAST = Edges.LEAST;

    public static void main(String[] args) {
        Cases.run(TextEdgesTest.class, due);
    }

    // ---- promise 1: a new object

    static void p01_theTextIsEmpty() {
        due.is("count(0)", new BeatWords().count(0), 0);
        due.is("wipe()", new BeatWords().wipe(), 0);
        due.is("flaw()", new BeatWords().flaw(), 0);
        due.is("text(NONE)", new BeatWords().text(-1), 0);
        due.is("type('a')", new BeatWords().type('a'), 1);
    }

    static void p01_noWordsAndNoSyllables() {
        for (int what = 1; what <= 7; what++) {
            due.is("count(" + what + ")", new BeatWords().count(what), 0);
        }
        due.is("word(0, 0)", new BeatWords().word(0, 0), -2);
        due.is("syllable(0, 0)", new BeatWords().syllable(0, 0), -2);
        due.is("clash(0)", new BeatWords().clash(0), -2);
        due.is("tell(0, 0)", new BeatWords().tell(0, 0), -2);
    }

    static void p01_lexiconIsEmpty() {
        BeatWords x = Runs.typed("a ba");
        due.is("count(5)", x.count(5), 0);
        due.is("marked(0)", x.marked(0), -1);
        due.is("unmark(1)", x.unmark(1), -3);
        due.is("word(0, 5)", x.word(0, 5), 0);
    }

    static void p01_lexiconHasRoomForSix() {
        BeatWords x = Runs.typed("a e i o u aa");
        for (int k = 0; k < 6; k++) {
            due.is("mark(" + k + ", 0)", x.mark(k, 0), k + 1);
        }
    }

    static void p01_waysAsAtFirst() {
        int[] first = {0, 1, 0, 0, 0, 0, 0, 0, 0};
        for (int k = 0; k < 9; k++) {
            due.is("way(" + k + ", 1)", new BeatWords().way(k, 1), first[k]);
        }
    }

    static void p01_allSheetsAreLost() {
        for (int s = 0; s < 4; s++) {
            due.is("lose(" + s + ")", new BeatWords().lose(s), Runs.NULL);
            due.is("read(" + s + ")", new BeatWords().read(s), Runs.NULL);
            due.is("write(" + s + ")", new BeatWords().write(s), Runs.NULL);
            for (int form = 0; form <= 2; form++) {
                due.is("put(" + s + ", " + form + ", 0, 0)", new BeatWords().put(s, form, 0, 0), Runs.NULL);
            }
            due.is("copy(" + s + ", 0, " + s + ", 0, 0)", new BeatWords().copy(s, 0, s, 0, 0), Runs.NULL);
            BeatWords x = new BeatWords();
            due.is("get(" + s + ", 0)", x.get(s, 0), LEAST);
            due.is("count(8)", x.count(8), 1);
        }
    }

    static void p01_noFindingYet() {
        due.is("count(8)", new BeatWords().count(8), 0);
    }

    static void p01_toldAreNone() {
        BeatWords x = new BeatWords();
        Runs.sheetOf(x, 0, Edges.sixtySyllables());
        x.read(0);
        for (int k = 0; k < 60; k++) {
            due.is("syllable(" + k + ", 7)", x.syllable(k, 7), 0);
        }
    }

    static void p01_eachObjectIsApart() {
        String before = Edges.all(new BeatWords());
        BeatWords one = Edges.rich();
        due.is("another object", Edges.all(new BeatWords()), before);
        due.is("the one", Edges.all(one), Edges.all(Edges.rich()));
    }

    // ---- promise 2: type

    static void p02_whatIsNoByteIsBad() {
        Edges.bad(due, Edges::rich, "type", 0, 255, (x, b) -> x.type(b));
        Edges.bad(due, BeatWords::new, "type", 0, 255, (x, b) -> x.type(b));
    }

    static void p02_theLeastByteIsTaken() {
        BeatWords x = new BeatWords();
        due.is("type(0)", x.type(0), 1);
        due.is("flaw()", x.flaw(), 0);
    }

    static void p02_theGreatestByteIsTaken() {
        BeatWords x = Runs.typed("a");
        due.is("type(255)", x.type(255), 2);
        due.is("flaw()", x.flaw(), 1);
    }

    static void p02_eachByteIsTaken() {
        for (int b = 0; b <= 255; b++) {
            due.is("type(" + b + ")", new BeatWords().type(b), 1);
        }
    }

    static void p02_aByteWithASignIsNoLetter() {
        // 353 and -159 have the lowest bits of an a
        BeatWords x = new BeatWords();
        due.is("type(353)", x.type(353), -2);
        due.is("type(-159)", x.type(-159), -2);
        due.is("type(225)", x.type(225), 1);
        due.is("flaw()", x.flaw(), 0);
    }

    static void p02_sixtyBytesFit() {
        BeatWords x = new BeatWords();
        for (int n = 1; n <= 60; n++) {
            due.is("type('a') to be " + n, x.type('a'), n);
        }
        due.is("count(0)", x.count(0), 60);
        due.is("syllable(29, 1)", x.syllable(29, 1), 58);
    }

    static void p02_sixtyOneBytesAreFull() {
        for (int b : new int[] {0, ' ', 'a', 'z', 255}) {
            Edges.refused(due, Edges::full, "type(" + b + ") of 60", x -> x.type(b), -4);
        }
        Edges.refused(due, Edges::full, "type() of 60, three times", x -> x.type('a') + x.type('a') + x.type('a'),
            -12, 0);
    }

    static void p02_badIsAheadOfFull() {
        Edges.bad(due, Edges::full, "type() of 60", 0, 255, (x, b) -> x.type(b));
    }

    static void p02_sixtyReadBytesAreFull() {
        BeatWords x = new BeatWords();
        Runs.sheetOf(x, 0, Edges.times("a", 60));
        x.read(0);
        due.is("type('a')", x.type('a'), -4);
        x.put(0, 0, 0, 0);
        Runs.sheetOf(x, 0, Edges.times("a", 59));
        x.read(0);
        due.is("type('a') of 59", x.type('a'), 60);
        due.is("type('a') of 60", x.type('a'), -4);
    }

    static void p02_wipedThereIsRoomAgain() {
        BeatWords x = Edges.full();
        x.wipe();
        due.is("type('a')", x.type('a'), 1);
        due.is("count(0)", x.count(0), 1);
    }

    static void p02_allToldAreNoneBehindIt() {
        BeatWords x = Runs.typed("bababa");
        Runs.tell(x, "121");
        x.type('n');
        due.is("told", Runs.told(x), "000");
    }

    static void p02_toldOutOfSightAreNoneBehindIt() {
        BeatWords x = Runs.typed("baiba");
        Runs.tell(x, "121");
        x.way(Runs.TWINS, 1);
        x.type('n');
        x.way(Runs.TWINS, 0);
        due.is("told", Runs.told(x), "000");
    }

    static void p02_refusedItLeavesTold() {
        BeatWords x = Runs.typed("bababa");
        Runs.tell(x, "121");
        x.type(256);
        x.type(-1);
        due.is("told behind BAD", Runs.told(x), "121");
        x = Edges.full();
        x.type('a');
        due.is("told behind FULL", Runs.told(x), "1" + Edges.times("0", 17) + "200");
    }

    static void p02_itLeavesWaysLexiconAndSheets() {
        BeatWords x = Edges.rich();
        int size = x.count(0);
        due.is("type('s')", x.type('s'), size + 1);
        due.is("count(5)", x.count(5), 2);
        due.is("marked(0)", x.marked(0), 1);
        due.is("lose(1)", x.lose(1), 2);
        int[] ways = {1, 2, 1, 1, 1, 1, 1, 2, 2};
        for (int k = 0; k < 9; k++) {
            due.is("way(" + k + ", 1)", x.way(k, 1), ways[k]);
        }
    }

    // ---- promise 3: wipe

    static void p03_ofAnEmptyTextItIsNone() {
        BeatWords x = new BeatWords();
        due.is("wipe()", x.wipe(), 0);
        due.is("wipe() again", x.wipe(), 0);
        due.is("type('a')", x.type('a'), 1);
    }

    static void p03_ofOneByte() {
        BeatWords x = Runs.typed("a");
        due.is("wipe()", x.wipe(), 1);
        due.is("wipe() again", x.wipe(), 0);
    }

    static void p03_ofAFullText() {
        BeatWords x = Edges.full();
        due.is("wipe()", x.wipe(), 60);
        due.is("count(0)", x.count(0), 0);
        due.is("flaw()", x.flaw(), 0);
    }

    static void p03_ofATextWithAFlaw() {
        BeatWords x = Runs.typed("ba .");
        due.is("wipe()", x.wipe(), 4);
        due.is("flaw()", x.flaw(), 0);
        x.type('a');
        due.is("flaw() behind type('a')", x.flaw(), -1);
    }

    static void p03_nothingOfTheTextIsLeft() {
        BeatWords x = Runs.typed("banana kalamazoo");
        x.way(Runs.WINDOW, 3);
        x.wipe();
        due.is("digest()", x.digest(), new BeatWords().digest());
    }

    /** All that is told of a text, where another text had been asked about before. */
    private static void behind(String before, String text) {
        String want = Edges.all(asked("", text));
        due.is("all of <" + text + "> behind <" + before + ">", Edges.all(asked(before, text)), want);
    }

    private static BeatWords asked(String before, String text) {
        BeatWords x = Runs.typed(before);
        x.way(Runs.SORT, 1);
        x.way(Runs.CODA, 2);
        x.way(Runs.REST, 1);
        x.way(Runs.WINDOW, 3);
        x.copyHeard();
        x.digest();
        x.wipe();
        Runs.type(x, text);
        return x;
    }

    static void p03_aShorterTextHasNothingOfALongerOne() {
        String[] longer = {Edges.sixtySyllables(), Edges.thirtyWords(), Edges.times("a", 60), "ant an aa i u",
            "aa", "ai", "a a a a", "bababa baabaa baantbaant"};
        String[] shorter = {"", "a", "ba", "a a", "a ", "b", "an", "baba", "a ba"};
        for (String before : longer) {
            for (String text : shorter) {
                behind(before, text);
            }
        }
    }

    static void p03_whatIsNoMoreThereIsBad() {
        BeatWords x = Runs.typed("baba baba baba");
        x.way(Runs.WINDOW, 3);
        x.mark(2, 1);
        x.digest();
        Runs.retype(x, "baba");
        for (int what = 0; what <= 7; what++) {
            due.is("word(1, " + what + ")", x.word(1, what), -2);
            due.is("syllable(2, " + what + ")", x.syllable(2, what), -2);
        }
        due.is("mark(1, 0)", x.mark(1, 0), -2);
        due.is("unmark(1)", x.unmark(1), -2);
        due.is("marked(1)", x.marked(1), -2);
        due.is("tell(2, 1)", x.tell(2, 1), -2);
        due.is("clash(0)", x.clash(0), -2);
        due.is("text(6)", x.text(6), -2);
    }

    static void p03_itLeavesWaysLexiconSheetsAndFinding() {
        BeatWords x = Edges.rich(3);
        x.wipe();
        due.is("count(8)", x.count(8), 3);
        due.is("count(5)", x.count(5), 2);
        due.is("items", Runs.items(x, 0, 3), "97 0 110");
        due.is("lose(1)", x.lose(1), 2);
        int[] ways = {1, 2, 1, 1, 1, 1, 1, 2, 2};
        for (int k = 0; k < 9; k++) {
            due.is("way(" + k + ", 1)", x.way(k, 1), ways[k]);
        }
        Runs.type(x, "baibanna");
        due.is("marked(0)", x.marked(0), 1);
        due.is("told", Runs.told(x), "000");
    }

    // ---- promise 4: read

    static void p04_whatIsNoSheetIsBad() {
        Edges.bad(due, Edges::rich, "read", 0, 3, (x, s) -> x.read(s));
        Edges.bad(due, BeatWords::new, "read", 0, 3, (x, s) -> x.read(s));
    }

    static void p04_theFirstAndTheLastSheetAreTaken() {
        for (int s = 0; s < 4; s++) {
            BeatWords x = new BeatWords();
            Runs.sheetOf(x, s, "ba");
            due.is("read(" + s + ")", x.read(s), 2);
            due.is("text", Runs.shown(x), "'ba");
        }
    }

    static void p04_ofALostSheetItIsNull() {
        Edges.refused(due, Edges::rich, "read(3)", x -> x.read(3), Runs.NULL);
        Edges.refused(due, BeatWords::new, "read(0)", x -> x.read(0), Runs.NULL);
    }

    static void p04_nullIsAheadOfCast() {
        // what a LOST SHEET was before is no FORM any more
        Edges.refused(due, () -> lost(1), "read(1), once ints", x -> x.read(1), Runs.NULL);
        Edges.refused(due, () -> lost(2), "read(2), once floats", x -> x.read(2), Runs.NULL);
        Edges.refused(due, () -> lost(0), "read(0), once bytes", x -> x.read(0), Runs.NULL);
    }

    private static BeatWords lost(int s) {
        BeatWords x = Edges.rich();
        x.lose(s);
        return x;
    }

    static void p04_ofIntsItIsCast() {
        Edges.refused(due, Edges::rich, "read(1)", x -> x.read(1), Runs.CAST);
    }

    static void p04_ofFloatsItIsCast() {
        Edges.refused(due, Edges::rich, "read(2)", x -> x.read(2), Runs.CAST);
    }

    static void p04_ofNoIntsItIsCast() {
        BeatWords x = Runs.typed("ba");
        x.sheet(0, 1, 0);
        due.is("read(0)", x.read(0), Runs.CAST);
        x.sheet(0, 2, 0);
        due.is("read(0)", x.read(0), Runs.CAST);
        due.is("count(0)", x.count(0), 2);
    }

    static void p04_ofNoBytesTheTextIsEmpty() {
        BeatWords x = Runs.typed("banana");
        x.sheet(0, 0, 0);
        due.is("read(0)", x.read(0), 0);
        due.is("count(0)", x.count(0), 0);
        due.is("flaw()", x.flaw(), 0);
        due.is("text(NONE)", x.text(-1), 0);
    }

    static void p04_ofOneByte() {
        BeatWords x = Runs.typed("banana");
        Runs.sheetOf(x, 0, "a");
        due.is("read(0)", x.read(0), 1);
        due.is("text", Runs.shown(x), "'a");
    }

    static void p04_ofSixtyBytes() {
        BeatWords x = new BeatWords();
        Runs.sheetOf(x, 0, Edges.thirtyWords());
        due.is("read(0)", x.read(0), 60);
        due.is("count(1)", x.count(1), 30);
        due.is("syllable(29, 1)", x.syllable(29, 1), 58);
        due.is("syllable(29, 2)", x.syllable(29, 2), 2);
    }

    static void p04_ofBytesThatWerePut() {
        // of bytes the lowest bits: 353 is an a, -158 a b
        BeatWords x = new BeatWords();
        x.sheet(0, 0, 2);
        x.put(0, 0, 0, -158);
        x.put(0, 0, 1, 353);
        due.is("read(0)", x.read(0), 2);
        due.is("text", Runs.shown(x), "'ba");
    }

    static void p04_ofBytesThatAreNoLetters() {
        BeatWords x = new BeatWords();
        Runs.sheetOf(x, 0, "ba");
        x.put(0, 0, 1, 225);
        due.is("read(0) with 225", x.read(0), 2);
        due.is("flaw()", x.flaw(), 1);
        x.put(0, 0, 1, -1);
        due.is("read(0) with -1", x.read(0), 2);
        due.is("flaw()", x.flaw(), 1);
        x.sheet(0, 0, 2);
        due.is("read(0) of a new row", x.read(0), 2);
        due.is("flaw()", x.flaw(), 0);
    }

    static void p04_theTextBecomesTheItemsAlone() {
        BeatWords x = Edges.full();
        Runs.sheetOf(x, 0, "dai");
        due.is("read(0)", x.read(0), 3);
        due.is("count(0)", x.count(0), 3);
        due.is("text", Runs.shown(x), "'da.i");
    }

    static void p04_allToldAreNoneBehindIt() {
        BeatWords x = Runs.typed("baiba");
        Runs.tell(x, "121");
        Runs.sheetOf(x, 0, "baiba");
        x.read(0);
        due.is("told", Runs.told(x), "000");
    }

    static void p04_toldOutOfSightAreNoneBehindIt() {
        BeatWords x = Runs.typed("baiba");
        Runs.tell(x, "121");
        Runs.sheetOf(x, 0, "baiba");
        x.way(Runs.TWINS, 1);
        x.read(0);
        x.way(Runs.TWINS, 0);
        due.is("told", Runs.told(x), "000");
    }

    static void p04_aShorterTextHasNothingOfALongerOne() {
        BeatWords x = Runs.typed("aaa aaa");
        x.way(Runs.WINDOW, 3);
        x.copyHeard();
        x.digest();
        Runs.sheetOf(x, 0, "a");
        x.read(0);
        BeatWords y = Runs.typed("a");
        y.way(Runs.WINDOW, 3);
        Runs.sheetOf(y, 0, "a");
        due.is("all", Edges.all(x), Edges.all(y));
    }

    static void p04_theSheetStaysAsItWas() {
        BeatWords x = new BeatWords();
        Runs.sheetOf(x, 0, "bai");
        x.read(0);
        x.type('n');
        due.is("items", Runs.items(x, 0, 3), "98 97 105");
        due.is("lose(0)", x.lose(0), 3);
        due.is("count(0)", x.count(0), 4);
    }

    static void p04_theTextStaysAsItWasRead() {
        BeatWords x = new BeatWords();
        Runs.sheetOf(x, 0, "bai");
        x.read(0);
        x.put(0, 0, 2, 'n');
        due.is("text", Runs.shown(x), "'ba.i");
        x.lose(0);
        due.is("text behind lose()", Runs.shown(x), "'ba.i");
    }

    // ---- promise 5: flaw

    private static void flawOf(String text, int want) {
        due.is("flaw() of <" + text + ">", Runs.typed(text).flaw(), want);
    }

    static void p05_none() {
        flawOf("a", -1);
        flawOf("banana kalamazoo", -1);
        flawOf("strengths", -1);
        flawOf(Edges.thirtyWords(), -1);
        flawOf(Edges.times("z", 59) + "u", -1);
    }

    static void p05_emptyItIsHowManyBytes() {
        flawOf("", 0);
        due.is("flaw() of a new object", new BeatWords().flaw(), 0);
    }

    static void p05_aBlankAtTheEnd() {
        flawOf("a ", 2);
        flawOf("ba na ", 6);
        flawOf(Edges.times("a", 59) + " ", 60);
    }

    static void p05_theLastWordWithoutAVowel() {
        flawOf("b", 1);
        flawOf("a b", 3);
        flawOf("a bcd", 5);
        flawOf(Edges.times("b", 60), 60);
        flawOf(Edges.times("a ", 29) + "bc", 60);
    }

    static void p05_aBlankAsTheFirstByte() {
        flawOf(" ", 0);
        flawOf(" a", 0);
        flawOf(" a ", 0);
        flawOf("  ", 0);
    }

    static void p05_aBlankBehindABlank() {
        flawOf("a  ", 2);
        flawOf("a  a", 2);
        flawOf("a a  a  a", 4);
    }

    static void p05_aBlankBehindAWordWithoutAVowel() {
        flawOf("b ", 1);
        flawOf("b a", 1);
        flawOf("a b a", 3);
        flawOf("a bcd a", 5);
    }

    static void p05_eachByteThatIsNoLetterAndNoBlank() {
        for (int b = 0; b <= 255; b++) {
            BeatWords x = Runs.typed("a");
            x.type(b);
            boolean letter = b >= 'a' && b <= 'z';
            due.is("flaw() of an a and " + b, x.flaw(), letter ? -1 : b == ' ' ? 2 : 1);
        }
    }

    static void p05_eachLetterAlone() {
        for (char c = 'a'; c <= 'z'; c++) {
            flawOf("" + c, "aeiou".indexOf(c) >= 0 ? -1 : 1);
        }
    }

    static void p05_aBadByteAtTheFirstAndTheLastPlace() {
        flawOf(".", 0);
        flawOf(".a", 0);
        flawOf(Edges.times("a", 59) + ".", 59);
        flawOf("." + Edges.times("a", 59), 0);
    }

    static void p05_theFirstOfSeveral() {
        flawOf(". .", 0);
        flawOf("a.b.", 1);
        flawOf("a. ", 1);
        flawOf("a  .", 2);
        flawOf(" .", 0);
        flawOf("b .", 1);
        flawOf("b.", 1);
        flawOf("a b.", 3);
        flawOf("a bc d", 4);
        flawOf("a.  b", 1);
    }

    static void p05_ofALongTextTheFirstOne() {
        flawOf("a" + Edges.times(" ", 59), 2);
        flawOf(Edges.times("a", 30) + "." + Edges.times("b", 29), 30);
    }

    static void p05_moreBytesMendAnEnd() {
        BeatWords x = new BeatWords();
        int[] want = {-1, 2, 3, -1, 5, 6, -1};
        String text = "a ba ba";
        for (int i = 0; i < text.length(); i++) {
            x.type(text.charAt(i));
            due.is("flaw() of <" + text.substring(0, i + 1) + ">", x.flaw(), want[i]);
        }
    }

    static void p05_moreBytesDoNotMendAPlace() {
        BeatWords x = Runs.typed("a  ");
        due.is("flaw()", x.flaw(), 2);
        x.type('a');
        due.is("flaw() behind type('a')", x.flaw(), 2);
        x.wipe();
        due.is("flaw() behind wipe()", x.flaw(), 0);
    }

    static void p05_withAFlawThereAreNoWordsAndNoSyllables() {
        for (String text : new String[] {"", "ba.", " ba", "ba ", "ba  ba", "ba b", "b ba", "baA"}) {
            BeatWords x = Runs.typed(text);
            x.way(Runs.WINDOW, 3);
            for (int what = 1; what <= 7; what++) {
                due.is("count(" + what + ") of <" + text + ">", x.count(what), 0);
            }
            due.is("count(0) of <" + text + ">", x.count(0), text.length());
            due.is("word(0, 0) of <" + text + ">", x.word(0, 0), -2);
            due.is("syllable(0, 0) of <" + text + ">", x.syllable(0, 0), -2);
            due.is("mark(0, 0) of <" + text + ">", x.mark(0, 0), -2);
            due.is("clash(0) of <" + text + ">", x.clash(0), -2);
            due.is("tell(0, 0) of <" + text + ">", x.tell(0, 0), -2);
            due.is("text(NONE) of <" + text + ">", x.text(-1), 0);
        }
    }

    static void p05_mendedThereAreWordsAgain() {
        BeatWords x = Runs.typed("ba b");
        due.is("count(1)", x.count(1), 0);
        x.type('a');
        due.is("count(1) mended", x.count(1), 2);
        x.type('.');
        due.is("count(1) with a FLAW again", x.count(1), 0);
    }

    // ---- promise 6: way

    private static final int[] FIRST = {0, 1, 0, 0, 0, 0, 0, 0, 0};
    private static final int[] LAST = {1, 2, 2, 2, 2, 1, 1, 2, 3};

    static void p06_whatIsNoWayIsBad() {
        Edges.bad(due, Edges::rich, "way(k, 1)", 0, 8, (x, k) -> x.way(k, 1));
        Edges.bad(due, Edges::rich, "way(k, 0)", 0, 8, (x, k) -> x.way(k, 0));
    }

    static void p06_aValueNotToldIsBad() {
        for (int k = 0; k < 9; k++) {
            int way = k;
            Edges.bad(due, Edges::rich, "way(" + k + ", v)", FIRST[k], LAST[k], (x, v) -> x.way(way, v));
        }
    }

    static void p06_bothOutOfBoundsIsBad() {
        Edges.refused(due, Edges::rich, "way(-1, -1)", x -> x.way(-1, -1), -2);
        Edges.refused(due, Edges::rich, "way(9, 4)", x -> x.way(9, 4), -2);
    }

    static void p06_eachValueToldIsTaken() {
        for (int k = 0; k < 9; k++) {
            BeatWords x = new BeatWords();
            int was = FIRST[k];
            for (int v = FIRST[k]; v <= LAST[k]; v++) {
                due.is("way(" + k + ", " + v + ")", x.way(k, v), was);
                was = v;
            }
            due.is("way(" + k + ", first)", x.way(k, FIRST[k]), LAST[k]);
            due.is("way(" + k + ", first) again", x.way(k, FIRST[k]), FIRST[k]);
        }
    }

    static void p06_itChangesNoOtherWay() {
        for (int k = 0; k < 9; k++) {
            BeatWords x = new BeatWords();
            x.way(k, LAST[k]);
            for (int other = 0; other < 9; other++) {
                due.is("way(" + other + ", 1) behind " + k, x.way(other, 1), other == k ? LAST[k] : FIRST[other]);
            }
        }
    }

    static void p06_theSameValueChangesNothing() {
        int[] ways = {1, 2, 1, 1, 1, 1, 1, 2, 2};
        String before = Edges.all(Edges.rich());
        BeatWords x = Edges.rich();
        for (int k = 0; k < 9; k++) {
            due.is("way(" + k + ")", x.way(k, ways[k]), ways[k]);
        }
        due.is("all", Edges.all(x), before);
    }

    static void p06_toldStayWhicheverSyllablesThereAre() {
        BeatWords x = Runs.typed("baibau");
        Runs.tell(x, "1221");
        x.way(Runs.TWINS, 1);
        due.is("told of two", Runs.told(x), "12");
        for (int k = 1; k < 9; k++) {
            x.way(k, LAST[k]);
            due.is("told behind way(" + k + ")", Runs.told(x), "12");
        }
        x.way(Runs.TWINS, 0);
        due.is("told of four", Runs.told(x), "1221");
    }

    static void p06_withAFlawItIsTakenToo() {
        BeatWords x = Runs.typed("bai.");
        due.is("way(0, 1)", x.way(0, 1), 0);
        due.is("way(0, 1) again", x.way(0, 1), 1);
        Runs.retype(x, "bai");
        due.is("count(2)", x.count(2), 1);
    }
}
