import java.util.Arrays;

/** Promises 7 and 8, with what the terms say of SYLLABLES, FEET and BEATS: a case for each boundary. */
public final class WordsEdgesTest {
    private static final Due due = new Due();

    public static void main(String[] args) {
        Cases.run(WordsEdgesTest.class, due);
    }

    private static BeatWords by(String text, int... ways) {
        BeatWords x = Runs.typed(text);
        for (int i = 0; i + 1 < ways.length; i += 2) {
            x.way(ways[i], ways[i + 1]);
        }
        return x;
    }

    private static void row(String text, int what, String want, int... ways) {
        due.is("syllable(k, " + what + ") of <" + text + "> by " + Arrays.toString(ways),
            Runs.row(by(text, ways), what), want);
    }

    // ---- promise 7: word

    static void p07_aWordThatIsNotThereIsBad() {
        for (int what = 0; what <= 5; what++) {
            int asked = what;
            Edges.bad(due, Edges::rich, "word(k, " + what + ")", 0, 3, (x, k) -> x.word(k, asked));
        }
    }

    static void p07_whatIsNotToldIsBad() {
        Edges.bad(due, Edges::rich, "word(0, what)", 0, 5, (x, what) -> x.word(0, what));
        Edges.bad(due, Edges::rich, "word(3, what)", 0, 5, (x, what) -> x.word(3, what));
    }

    static void p07_bothOutOfBoundsIsBad() {
        Edges.refused(due, Edges::rich, "word(-1, -1)", x -> x.word(-1, -1), -2);
        Edges.refused(due, Edges::rich, "word(4, 6)", x -> x.word(4, 6), -2);
    }

    static void p07_ofNoWordsEachIsBad() {
        for (int what = 0; what <= 5; what++) {
            due.is("word(0, " + what + ") of none", new BeatWords().word(0, what), -2);
            due.is("word(0, " + what + ") with a FLAW", Runs.typed("ba ").word(0, what), -2);
        }
    }

    static void p07_aWordOfOneSyllable() {
        BeatWords x = Runs.typed("a");
        int[] want = {0, 1, 1, 0, 0, 0};
        for (int what = 0; what <= 5; what++) {
            due.is("word(0, " + what + ")", x.word(0, what), want[what]);
        }
        due.is("word(1, 0)", x.word(1, 0), -2);
    }

    static void p07_theLastOfThirtyWords() {
        BeatWords x = Runs.typed(Edges.thirtyWords());
        for (int k = 0; k < 30; k++) {
            due.is("word(" + k + ", 0)", x.word(k, 0), k);
            due.is("word(" + k + ", 1)", x.word(k, 1), 1);
            due.is("word(" + k + ", 3)", x.word(k, 3), k);
        }
        due.is("word(30, 0)", x.word(30, 0), -2);
    }

    static void p07_aWordOfSixtySyllables() {
        BeatWords x = Runs.typed(Edges.sixtySyllables());
        due.is("word(0, 1)", x.word(0, 1), 60);
        due.is("word(0, 2)", x.word(0, 2), 30);
        due.is("word(0, 3)", x.word(0, 3), 0);
        x.way(Runs.MAIN, 1);
        due.is("word(0, 3) by MAIN 1", x.word(0, 3), 58);
        x.mark(0, 59);
        due.is("word(0, 3) marked", x.word(0, 3), 59);
        due.is("word(1, 0)", x.word(1, 0), -2);
    }

    static void p07_firstSyllablesAreNumberedInTheText() {
        BeatWords x = Runs.typed("a bababa da nana");
        due.is("word(0, 0)", x.word(0, 0), 0);
        due.is("word(1, 0)", x.word(1, 0), 1);
        due.is("word(2, 0)", x.word(2, 0), 4);
        due.is("word(3, 0)", x.word(3, 0), 5);
        due.is("word(3, 3)", x.word(3, 3), 5);
        x.mark(3, 1);
        due.is("word(3, 3) marked", x.word(3, 3), 6);
        due.is("word(3, 4) marked", x.word(3, 4), 6);
    }

    static void p07_ofAMovedMainBeat() {
        BeatWords x = Runs.typed("ba bababa");
        x.way(Runs.REST, 1);
        x.way(Runs.WINDOW, 1);
        due.is("word(0, 4)", x.word(0, 4), 0);
        due.is("word(1, 3)", x.word(1, 3), 1);
        due.is("word(1, 4)", x.word(1, 4), 3);
    }

    static void p07_inLexiconWithASyllableThatItHasNotNow() {
        BeatWords x = Runs.typed("bai");
        x.mark(0, 1);
        due.is("word(0, 5)", x.word(0, 5), 1);
        due.is("word(0, 3)", x.word(0, 3), 1);
        x.way(Runs.TWINS, 1);
        due.is("word(0, 5) of one SYLLABLE", x.word(0, 5), 0);
        due.is("word(0, 3) of one SYLLABLE", x.word(0, 3), 0);
        x.way(Runs.TWINS, 0);
        due.is("word(0, 5) of two again", x.word(0, 5), 1);
    }

    static void p07_inLexiconWithItsLastSyllable() {
        BeatWords x = Runs.typed("baibaba");
        x.mark(0, 2);
        x.way(Runs.TWINS, 1);
        due.is("word(0, 1)", x.word(0, 1), 3);
        due.is("word(0, 5) of the last", x.word(0, 5), 1);
        due.is("word(0, 3)", x.word(0, 3), 2);
        x.way(Runs.TWINS, 0);
        x.mark(0, 3);
        x.way(Runs.TWINS, 1);
        due.is("word(0, 5) of one more", x.word(0, 5), 0);
        due.is("word(0, 3)", x.word(0, 3), 0);
    }

    static void p07_inLexiconWithASyllableFarBehindItsLast() {
        BeatWords x = Runs.typed("baibaibai");
        x.mark(0, 5);
        x.way(Runs.TWINS, 1);
        due.is("word(0, 1)", x.word(0, 1), 3);
        due.is("word(0, 5)", x.word(0, 5), 0);
        due.is("BEATS", Runs.beats(x), "200");
    }

    static void p07_feetAreAtLeastOne() {
        for (int sort = 0; sort <= 2; sort++) {
            for (int from = 0; from <= 1; from++) {
                for (int edge = 0; edge <= 2; edge++) {
                    BeatWords x = by("ba baba", Runs.SORT, sort, Runs.FROM, from, Runs.EDGE, edge);
                    due.is("word(0, 2)", x.word(0, 2), 1);
                    due.is("word(1, 2)", x.word(1, 2), 1);
                    due.is("count(3)", x.count(3), 2);
                }
            }
        }
    }

    // ---- promise 8: syllable

    static void p08_aSyllableThatIsNotThereIsBad() {
        for (int what = 0; what <= 7; what++) {
            int asked = what;
            Edges.bad(due, Edges::rich, "syllable(k, " + what + ")", 0, 9, (x, k) -> x.syllable(k, asked));
        }
    }

    static void p08_whatIsNotToldIsBad() {
        Edges.bad(due, Edges::rich, "syllable(0, what)", 0, 7, (x, what) -> x.syllable(0, what));
        Edges.bad(due, Edges::rich, "syllable(9, what)", 0, 7, (x, what) -> x.syllable(9, what));
    }

    static void p08_bothOutOfBoundsIsBad() {
        Edges.refused(due, Edges::rich, "syllable(-1, -1)", x -> x.syllable(-1, -1), -2);
        Edges.refused(due, Edges::rich, "syllable(10, 8)", x -> x.syllable(10, 8), -2);
    }

    static void p08_ofNoSyllablesEachIsBad() {
        for (int what = 0; what <= 7; what++) {
            due.is("syllable(0, " + what + ") of none", new BeatWords().syllable(0, what), -2);
            due.is("syllable(0, " + what + ") with a FLAW", Runs.typed("ba b").syllable(0, what), -2);
        }
    }

    static void p08_theOnlySyllable() {
        BeatWords x = Runs.typed("a");
        int[] want = {0, 0, 1, 1, 0, 2, 2, 0};
        for (int what = 0; what <= 7; what++) {
            due.is("syllable(0, " + what + ")", x.syllable(0, what), want[what]);
        }
        due.is("syllable(1, 0)", x.syllable(1, 0), -2);
    }

    static void p08_theOnlySyllableOfSixtyBytes() {
        BeatWords x = Runs.typed(Edges.times("b", 30) + "a" + Edges.times("b", 29));
        x.way(Runs.CODA, 2);
        int[] want = {0, 0, 60, 3, 0, 2, 2, 0};
        for (int what = 0; what <= 7; what++) {
            due.is("syllable(0, " + what + ")", x.syllable(0, what), want[what]);
        }
    }

    static void p08_theLastOfSixtySyllables() {
        BeatWords x = Runs.typed(Edges.sixtySyllables());
        int[] want = {0, 59, 1, 1, 29, 0, 0, 0};
        for (int what = 0; what <= 7; what++) {
            due.is("syllable(59, " + what + ")", x.syllable(59, what), want[what]);
        }
        due.is("syllable(60, 0)", x.syllable(60, 0), -2);
    }

    static void p08_theSyllablesOfThirtyWords() {
        BeatWords x = Runs.typed(Edges.thirtyWords());
        for (int k = 0; k < 30; k++) {
            due.is("syllable(" + k + ", 0)", x.syllable(k, 0), k);
            due.is("syllable(" + k + ", 1)", x.syllable(k, 1), 2 * k);
            due.is("syllable(" + k + ", 2)", x.syllable(k, 2), k == 29 ? 2 : 1);
            due.is("syllable(" + k + ", 4)", x.syllable(k, 4), 0);
        }
        due.is("syllable(30, 0)", x.syllable(30, 0), -2);
    }

    static void p08_withoutAFootItIsNone() {
        row("bababa", 4, "00-");
        row("bababa", 4, "-00", Runs.FROM, 1);
        row("baba", 4, "0-", Runs.EDGE, 2);
        due.is("syllable(2, 4)", Runs.typed("bababa").syllable(2, 4), -1);
    }

    static void p08_footNumbersBeginAnewInEachWord() {
        row("babababa ba babababa", 4, "001100011");
    }

    // ---- promise 8: NUCLEI and how letters are parted

    /** Full stops between SYLLABLES. */
    private static void cut(String want, int... ways) {
        String text = want.replace(".", "");
        BeatWords x = by(text, ways);
        StringBuilder got = new StringBuilder();
        for (int k = 0; k < x.count(2); k++) {
            int start = x.syllable(k, 1);
            boolean opens = k > 0 && x.syllable(k, 0) != x.syllable(k - 1, 0);
            got.append(k == 0 ? "" : opens ? " " : ".").append(text, start, start + x.syllable(k, 2));
        }
        due.is("cut of " + text + " by " + Arrays.toString(ways), got.toString(), want);
    }

    static void p08_eachTwoVowels() {
        for (char a : "aeiou".toCharArray()) {
            for (char b : "aeiou".toCharArray()) {
                boolean twins = a == b || b == 'i' || b == 'u';
                cut("x" + a + (a == b ? "" : ".") + b + "x", Runs.TWINS, 0);
                cut("x" + a + (twins ? "" : ".") + b + "x", Runs.TWINS, 1);
            }
        }
    }

    static void p08_moreThanTwoOfTheSameVowel() {
        cut("aa.a");
        cut("aa.aa");
        cut("aa.aa.a");
        cut("ii.i", Runs.TWINS, 1);
        cut("uu.uu.u", Runs.TWINS, 1);
        cut(Edges.times("aa.", 29) + "aa");
    }

    static void p08_aVowelIsOfOneNucleusAlone() {
        cut("ai.i", Runs.TWINS, 1);
        cut("a.ii");
        cut("aa.i", Runs.TWINS, 1);
        cut("iu.i", Runs.TWINS, 1);
        cut("iu.iu", Runs.TWINS, 1);
        cut("a.ei.o", Runs.TWINS, 1);
    }

    static void p08_aVowelAtTheEndOfAWord() {
        cut("a a");
        cut("a aa a");
        cut("a i u", Runs.TWINS, 1);
        cut("ba i", Runs.TWINS, 1);
        cut("ba.ba a");
        cut(Edges.times("b", 59) + "a");
    }

    static void p08_betweenTwoNucleiOnsetOnesAtMost() {
        cut("a.e", Runs.ONSET, 1);
        cut("a.be", Runs.ONSET, 1);
        cut("ab.ce", Runs.ONSET, 1);
        cut("abc.de", Runs.ONSET, 1);
        cut("a.e", Runs.ONSET, 2);
        cut("a.be", Runs.ONSET, 2);
        cut("a.bce", Runs.ONSET, 2);
        cut("ab.cde", Runs.ONSET, 2);
        cut("abc.dfe", Runs.ONSET, 2);
    }

    static void p08_allLettersAheadOfTheFirstNucleus() {
        cut("bcda", Runs.ONSET, 1);
        cut("bcda.ba", Runs.ONSET, 1);
        cut("ba bcda", Runs.ONSET, 1);
        cut(Edges.times("b", 58) + "a", Runs.ONSET, 2);
    }

    static void p08_allLettersBehindTheLastNucleus() {
        cut("abcd", Runs.ONSET, 2);
        cut("ba.bacd ba", Runs.ONSET, 1);
        cut("a" + Edges.times("b", 59), Runs.ONSET, 2);
    }

    static void p08_manyLettersBetweenTwoNuclei() {
        cut("a" + Edges.times("b", 57) + ".ba", Runs.ONSET, 1);
        cut("a" + Edges.times("b", 56) + ".bba", Runs.ONSET, 2);
    }

    // ---- promise 8: MORAS

    static void p08_codaCountsLettersAtMost() {
        String text = "a an ant ants antst";
        row(text, 3, "11111", Runs.CODA, 0);
        row(text, 3, "12222", Runs.CODA, 1);
        row(text, 3, "12333", Runs.CODA, 2);
        String twin = "aa aan aant aants";
        row(twin, 3, "2222", Runs.CODA, 0);
        row(twin, 3, "2333", Runs.CODA, 1);
        row(twin, 3, "2344", Runs.CODA, 2);
    }

    static void p08_codaWithinAWord() {
        row("aba", 3, "11", Runs.CODA, 2);
        row("anba", 3, "21", Runs.CODA, 2);
        row("antba", 3, "31", Runs.CODA, 2);
        row("antsba", 3, "31", Runs.CODA, 2);
        row("antsba", 3, "21", Runs.CODA, 1);
        row("antsba", 3, "31", Runs.CODA, 2, Runs.ONSET, 2);
        row("antba", 3, "21", Runs.CODA, 2, Runs.ONSET, 2);
    }

    static void p08_lettersAheadOfANucleusHaveNoMoras() {
        row("strengths stra", 3, "11", Runs.CODA, 0);
        row("stra strastra", 3, "131", Runs.CODA, 2);
        row("stra strastra", 3, "121", Runs.CODA, 2, Runs.ONSET, 2);
    }

    static void p08_byEdge1TheLastLetterIsNotThere() {
        String text = "a an ant ants antst";
        row(text, 3, "11111", Runs.CODA, 0, Runs.EDGE, 1);
        row(text, 3, "11222", Runs.CODA, 1, Runs.EDGE, 1);
        row(text, 3, "11233", Runs.CODA, 2, Runs.EDGE, 1);
    }

    static void p08_byEdge1TheLastLetterOfEachWord() {
        row("antan tan banban", 3, "21121", Runs.CODA, 1, Runs.EDGE, 1);
        row("antan tan banban", 3, "22222", Runs.CODA, 1, Runs.EDGE, 0);
        row("antan tan banban", 3, "22222", Runs.CODA, 1, Runs.EDGE, 2);
    }

    static void p08_byEdge1ALastVowelIsThere() {
        row("aa baa anta", 3, "2221", Runs.CODA, 1, Runs.EDGE, 1);
        row("bai", 3, "2", Runs.TWINS, 1, Runs.EDGE, 1);
        row("bai", 3, "11", Runs.TWINS, 0, Runs.EDGE, 1);
    }

    static void p08_byEdge1TheLastLetterIsOfItsSyllable() {
        row("an", 2, "2", Runs.CODA, 1, Runs.EDGE, 1);
        row("banan", 2, "23", Runs.CODA, 1, Runs.EDGE, 1);
    }

    static void p08_heavyIsTwoMorasOrMore() {
        // by SORT 1 and REST 0 a HEAVY one ahead of a LIGHT one is a FOOT, a LIGHT one is not
        row("baba", 4, "00", Runs.SORT, 1);
        row("banba", 4, "0-", Runs.SORT, 1, Runs.CODA, 1);
        row("baaba", 4, "0-", Runs.SORT, 1);
        row("bantba", 4, "0-", Runs.SORT, 1, Runs.CODA, 2);
        row("baantsba", 4, "0-", Runs.SORT, 1, Runs.CODA, 2);
        row("banba", 4, "00", Runs.SORT, 1, Runs.CODA, 0);
    }

    // ---- promise 8: FEET

    private static void feet(String shape, int sort, int from, int rest, String feet, String beats) {
        int[] ways = {Runs.SORT, sort, Runs.FROM, from, Runs.REST, rest};
        row(Runs.shaped(shape), 4, feet, ways);
        row(Runs.shaped(shape), 5, beats, ways);
    }

    static void p08_oneSyllableIsAlwaysAFoot() {
        for (int sort = 0; sort <= 2; sort++) {
            for (int from = 0; from <= 1; from++) {
                for (int rest = 0; rest <= 1; rest++) {
                    feet("L", sort, from, rest, "0", "2");
                    feet("H", sort, from, rest, "0", "2");
                }
            }
        }
    }

    static void p08_withoutFeetByEachMain() {
        for (int main = 0; main <= 2; main++) {
            row("ba", 5, "2", Runs.MAIN, main);
            row("baba", 5, "20", Runs.MAIN, main, Runs.EDGE, 2);
            row("baba", 4, "0-", Runs.MAIN, main, Runs.EDGE, 2, Runs.SORT, 1);
            row("baba", 5, "20", Runs.MAIN, main, Runs.EDGE, 2, Runs.SORT, 2);
            row("baba", 4, "0-", Runs.MAIN, main, Runs.EDGE, 2, Runs.SORT, 2, Runs.FROM, 1);
        }
    }

    static void p08_sort0FromTheLeft() {
        feet("LL", 0, 0, 0, "00", "20");
        feet("LLL", 0, 0, 0, "00-", "200");
        feet("LLL", 0, 0, 1, "001", "201");
        feet("LLLL", 0, 0, 1, "0011", "2010");
        feet("HHH", 0, 0, 0, "00-", "200");
        feet("HHH", 0, 0, 1, "001", "201");
    }

    static void p08_sort0FromTheRight() {
        feet("LL", 0, 1, 0, "00", "20");
        feet("LLL", 0, 1, 0, "-00", "020");
        feet("LLL", 0, 1, 1, "011", "210");
        feet("LLLL", 0, 1, 1, "0011", "2010");
        feet("HHH", 0, 1, 0, "-00", "020");
        feet("HHH", 0, 1, 1, "011", "210");
    }

    static void p08_sort1FromTheLeft() {
        feet("LL", 1, 0, 0, "00", "20");
        feet("LH", 1, 0, 0, "-0", "02");
        feet("LH", 1, 0, 1, "01", "21");
        feet("HL", 1, 0, 0, "0-", "20");
        feet("HL", 1, 0, 1, "01", "21");
        feet("HH", 1, 0, 0, "01", "21");
        feet("LLL", 1, 0, 0, "00-", "200");
        feet("LLL", 1, 0, 1, "001", "201");
        feet("LHL", 1, 0, 0, "-0-", "020");
        feet("LHL", 1, 0, 1, "012", "211");
        feet("LLH", 1, 0, 0, "001", "201");
        feet("HLL", 1, 0, 0, "011", "210");
    }

    static void p08_sort1FromTheRight() {
        feet("LL", 1, 1, 0, "00", "20");
        feet("LH", 1, 1, 0, "-0", "02");
        feet("LH", 1, 1, 1, "01", "21");
        feet("HL", 1, 1, 0, "0-", "20");
        feet("HL", 1, 1, 1, "01", "21");
        feet("HH", 1, 1, 0, "01", "21");
        feet("LLL", 1, 1, 0, "-00", "020");
        feet("LLL", 1, 1, 1, "011", "210");
        feet("LHL", 1, 1, 0, "-0-", "020");
        feet("LHL", 1, 1, 1, "012", "211");
        feet("LLH", 1, 1, 0, "001", "201");
        feet("HLL", 1, 1, 0, "011", "210");
    }

    static void p08_sort2FromTheLeft() {
        feet("LL", 2, 0, 0, "00", "02");
        feet("LH", 2, 0, 0, "00", "02");
        feet("HL", 2, 0, 0, "0-", "20");
        feet("HL", 2, 0, 1, "01", "21");
        feet("HH", 2, 0, 0, "01", "21");
        feet("LLL", 2, 0, 0, "00-", "020");
        feet("LLL", 2, 0, 1, "001", "021");
        feet("LHL", 2, 0, 0, "00-", "020");
        feet("LHL", 2, 0, 1, "001", "021");
        feet("HLH", 2, 0, 0, "011", "201");
    }

    static void p08_sort2FromTheRight() {
        feet("LL", 2, 1, 0, "00", "02");
        feet("LH", 2, 1, 0, "00", "02");
        feet("HL", 2, 1, 0, "0-", "20");
        feet("HL", 2, 1, 1, "01", "21");
        feet("HH", 2, 1, 0, "01", "21");
        feet("LLL", 2, 1, 0, "-00", "002");
        feet("LLL", 2, 1, 1, "011", "201");
        feet("LHL", 2, 1, 0, "00-", "020");
        feet("LHL", 2, 1, 1, "001", "021");
        feet("HLH", 2, 1, 0, "011", "201");
        feet("HHL", 2, 1, 1, "012", "211");
    }

    static void p08_byEdge2WithoutTheLastSyllable() {
        row("ba", 5, "2", Runs.EDGE, 2);
        row("baba", 5, "20", Runs.EDGE, 2);
        row("bababa", 4, "00-", Runs.EDGE, 2);
        row("bababa", 4, "00-", Runs.EDGE, 2, Runs.FROM, 1);
        row("babababa", 4, "001-", Runs.EDGE, 2, Runs.REST, 1);
        row("babababa", 5, "2010", Runs.EDGE, 2, Runs.REST, 1);
        row("babaa", 5, "20", Runs.EDGE, 2, Runs.SORT, 1);
        row("babaa", 5, "20", Runs.EDGE, 2, Runs.SORT, 2);
        row("ba baba baa", 5, "2202", Runs.EDGE, 2, Runs.MAIN, 1);
    }

    static void p08_aFootDoesNotReachIntoAnotherWord() {
        row("ba ba ba", 4, "000", Runs.SORT, 0);
        row("ba ba ba", 5, "222", Runs.SORT, 2);
        row("bababa ba", 4, "00-0", Runs.SORT, 1);
        row("ba bababa", 4, "0-00", Runs.SORT, 2, Runs.FROM, 1);
    }

    static void p08_sixtySyllablesOfEachSort() {
        for (int sort = 0; sort <= 2; sort++) {
            for (int from = 0; from <= 1; from++) {
                BeatWords x = by(Edges.sixtySyllables(), Runs.SORT, sort, Runs.FROM, from, Runs.MAIN, 1);
                due.is("word(0, 2)", x.word(0, 2), 30);
                due.is("syllable(0, 4)", x.syllable(0, 4), 0);
                due.is("syllable(59, 4)", x.syllable(59, 4), 29);
                due.is("word(0, 3)", x.word(0, 3), sort == 2 ? 59 : 58);
            }
        }
    }

    // ---- promise 8: the MAIN FOOT

    static void p08_mainOfOneFoot() {
        for (int main = 0; main <= 2; main++) {
            row("baba", 5, "20", Runs.MAIN, main);
            row("baa", 5, "2", Runs.MAIN, main);
        }
    }

    static void p08_mainIsTheFirstOrTheLast() {
        row("bababababa", 5, "20101", Runs.REST, 1, Runs.MAIN, 0);
        row("bababababa", 5, "10102", Runs.REST, 1, Runs.MAIN, 1);
    }

    static void p08_ofLikeMorasTheFirst() {
        row("bababababa", 5, "20101", Runs.REST, 1, Runs.MAIN, 2);
        row("baabaabaa", 5, "211", Runs.SORT, 1, Runs.MAIN, 2);
        row("bababaabaa", 5, "1021", Runs.SORT, 1, Runs.MAIN, 2);
    }

    static void p08_oneMoraMoreIsMost() {
        row("baabaan", 5, "12", Runs.SORT, 1, Runs.CODA, 1, Runs.MAIN, 2);
        row("baanbaa", 5, "21", Runs.SORT, 1, Runs.CODA, 1, Runs.MAIN, 2);
        row("baanbaant", 5, "12", Runs.SORT, 1, Runs.CODA, 2, Runs.MAIN, 2);
        row("baanbaant", 5, "21", Runs.SORT, 1, Runs.CODA, 1, Runs.MAIN, 2);
    }

    static void p08_moraOfTheSyllableWithTheBeatAlone() {
        // two HEAVY ones without the BEAT stand behind it in their FEET
        row("babaababaa", 5, "2010", Runs.SORT, 0, Runs.MAIN, 2);
        row("babaabaaba", 5, "1020", Runs.SORT, 0, Runs.MAIN, 2);
        row("babababaa", 5, "0102", Runs.SORT, 2, Runs.MAIN, 2);
    }

    static void p08_eachWordHasItsOwnMain() {
        row("babaa baaba baa", 5, "12212", Runs.SORT, 1, Runs.REST, 1, Runs.MAIN, 2);
        row("babababa ba", 5, "10202", Runs.MAIN, 1);
    }
}
