/** Promises 9 to 20: exceptions, clashes, what is heard, told and near, shares, the beats as text. */
public final class BeatsTest {
    private static final Due due = new Due();

    public static void main(String[] args) {
        mark();
        markedBeats();
        unmark();
        marked();
        clash();
        hearing();
        heardBadly();
        tell();
        copyHeard();
        near();
        nearest();
        learn();
        share();
        text();
        due.end();
    }

    private static void mark() {
        due.promise("promise 9");
        BeatWords x = Runs.typed("a baba da dada fa fafa ga");
        due.is("mark(-1, 0)", x.mark(-1, 0), -2);
        due.is("mark(7, 0)", x.mark(7, 0), -2);
        due.is("mark(0, -1)", x.mark(0, -1), -2);
        due.is("mark(0, 1)", x.mark(0, 1), -2);
        due.is("mark(1, 2)", x.mark(1, 2), -2);
        due.is("mark(1, most)", x.mark(1, Integer.MAX_VALUE), -2);
        due.is("mark(least, 0)", x.mark(Integer.MIN_VALUE, 0), -2);
        due.is("count(5)", x.count(5), 0);
        for (int k = 0; k < 6; k++) {
            due.is("mark(" + k + ", 0)", x.mark(k, 0), k + 1);
        }
        long before = x.digest();
        due.is("mark(6, 0) as the 7th", x.mark(6, 0), -4);
        due.is("mark(6, 1) as the 7th", x.mark(6, 1), -2);
        due.is("mark(7, 0) behind the 6th", x.mark(7, 0), -2);
        due.is("digest() behind refusals", x.digest(), before);
        due.is("count(8)", x.count(8), 0);
        due.is("mark(1, 1) again", x.mark(1, 1), 6);
        due.is("marked(1)", x.marked(1), 1);
        due.is("marked(3)", x.marked(3), 0);
        due.is("unmark(0)", x.unmark(0), 5);
        due.is("mark(6, 0)", x.mark(6, 0), 6);
        due.is("mark(0, 0)", x.mark(0, 0), -4);
        due.is("count(5)", x.count(5), 6);
        x = Runs.typed("ba baba ba bab");
        due.is("mark(0, 0)", x.mark(0, 0), 1);
        due.is("mark(2, 0), the same text", x.mark(2, 0), 1);
        due.is("mark(1, 1)", x.mark(1, 1), 2);
        due.is("marked(3), a longer text", x.marked(3), -1);
        Runs.retype(x, "da ba");
        due.is("marked(0) in another text", x.marked(0), -1);
        due.is("marked(1) in another text", x.marked(1), 0);
        x.type(' ');
        due.is("mark(0, 0) with a FLAW", x.mark(0, 0), -2);
        due.is("count(5) with a FLAW", x.count(5), 2);
        String sixty = "abcdefghijabcdefghijabcdefghijabcdefghijabcdefghijabcdefghij";
        Runs.retype(x, sixty);
        due.is("mark(0, 17) of 60 letters", x.mark(0, 17), 3);
        due.is("mark(0, 18) of 60 letters", x.mark(0, 18), -2);
        due.is("marked(0) of 60 letters", x.marked(0), 17);
        Runs.retype(x, sixty.substring(0, 59) + "i");
        due.is("marked(0) of other 60 letters", x.marked(0), -1);
    }

    private static void beatsMarked(String shape, int rest, int j, String want) {
        BeatWords x = Runs.typed(Runs.shaped(shape));
        x.way(Runs.REST, rest);
        x.mark(0, j);
        due.is("BEATS of " + shape + " by REST " + rest + " marked " + j, Runs.beats(x), want);
        due.is("MAIN BEAT", x.word(0, 3), j);
        due.is("in LEXICON", x.word(0, 5), 1);
    }

    private static void markedBeats() {
        due.promise("promises 7 to 9, LEXICON");
        beatsMarked("LLLLL", 1, 0, "20101");
        beatsMarked("LLLLL", 1, 1, "02001");
        beatsMarked("LLLLL", 1, 2, "10201");
        beatsMarked("LLLLL", 1, 3, "10020");
        beatsMarked("LLLLL", 1, 4, "10102");
        beatsMarked("LLLLL", 0, 4, "10102");
        beatsMarked("LLLLL", 0, 3, "10020");
        beatsMarked("L", 0, 0, "2");
        beatsMarked("LL", 0, 1, "02");
        BeatWords x = Runs.typed("baba dababa baba");
        x.mark(0, 1);
        due.is("both of one text", Runs.beats(x), "0220002");
        due.is("FEET stay", Runs.feet(x), "0000-00");
        due.is("word(2, 3)", x.word(2, 3), 6);
        x.way(Runs.EDGE, 2);
        due.is("a SYLLABLE without a FOOT", Runs.beats(x), "0220002");
        x = Runs.typed("baiba");
        x.mark(0, 2);
        due.is("BEATS", Runs.beats(x), "102");
        x.way(Runs.TWINS, 1);
        due.is("BEATS without that SYLLABLE", Runs.beats(x), "20");
        due.is("word(0, 5)", x.word(0, 5), 0);
        due.is("word(0, 3)", x.word(0, 3), 0);
        due.is("marked(0)", x.marked(0), 2);
        due.is("count(5)", x.count(5), 1);
        due.is("mark(0, 2)", x.mark(0, 2), -2);
        due.is("mark(0, 1)", x.mark(0, 1), 1);
        due.is("BEATS marked anew", Runs.beats(x), "02");
    }

    private static void unmark() {
        due.promise("promise 10");
        BeatWords x = Runs.typed("a baba da dada fa fafa ga");
        due.is("unmark(-1)", x.unmark(-1), -2);
        due.is("unmark(7)", x.unmark(7), -2);
        due.is("unmark(0)", x.unmark(0), -3);
        x.mark(0, 0);
        x.mark(1, 1);
        x.mark(3, 1);
        due.is("unmark(2)", x.unmark(2), -3);
        due.is("unmark(0)", x.unmark(0), 2);
        due.is("unmark(0) again", x.unmark(0), -3);
        due.is("marked(1)", x.marked(1), 1);
        due.is("marked(3)", x.marked(3), 1);
        due.is("marked(0)", x.marked(0), -1);
        due.is("word(0, 5)", x.word(0, 5), 0);
        due.is("word(1, 3)", x.word(1, 3), 2);
        due.is("unmark(1)", x.unmark(1), 1);
        due.is("word(1, 3)", x.word(1, 3), 1);
        due.is("unmark(3)", x.unmark(3), 0);
        due.is("count(5)", x.count(5), 0);
        due.is("count(8)", x.count(8), 0);
        for (int k = 0; k < 6; k++) {
            x.mark(k, 0);
        }
        due.is("unmark(5), the last of 6", x.unmark(5), 5);
        due.is("marked(5)", x.marked(5), -1);
        due.is("marked(4)", x.marked(4), 0);
        due.is("unmark(7) of none", x.unmark(7), -2);
    }

    private static void marked() {
        due.promise("promise 11");
        BeatWords x = Runs.typed("a baba da");
        due.is("marked(-1)", x.marked(-1), -2);
        due.is("marked(3)", x.marked(3), -2);
        due.is("marked(most)", x.marked(Integer.MAX_VALUE), -2);
        due.is("marked(1)", x.marked(1), -1);
        x.mark(1, 1);
        due.is("marked(1)", x.marked(1), 1);
        due.is("marked(0)", x.marked(0), -1);
        x.mark(1, 0);
        due.is("marked(1) marked anew", x.marked(1), 0);
        x.wipe();
        due.is("marked(0) of none", x.marked(0), -2);
        due.is("count(8)", x.count(8), 0);
    }

    private static void clash() {
        due.promise("promise 12");
        BeatWords x = Runs.typed(Runs.shaped("LLLLL"));
        x.way(Runs.FROM, 1);
        x.way(Runs.REST, 1);
        due.is("BEATS", Runs.beats(x), "21010");
        due.is("clash(0) by WINDOW 0", x.clash(0), -2);
        x.way(Runs.WINDOW, 1);
        due.is("clash(0) by WINDOW 1", x.clash(0), 0);
        due.is("clash(1) by WINDOW 1", x.clash(1), -2);
        x.way(Runs.WINDOW, 2);
        due.is("clash(0) by WINDOW 2", x.clash(0), 0);
        due.is("clash(1) by WINDOW 2", x.clash(1), 1);
        due.is("clash(2) by WINDOW 2", x.clash(2), -2);
        due.is("clash(-1)", x.clash(-1), -2);
        due.is("clash(most)", x.clash(Integer.MAX_VALUE), -2);
        x.way(Runs.WINDOW, 3);
        due.is("heard(2) by WINDOW 3, none between", x.heard(2), 2);
        Runs.retype(x, Runs.shaped("L LL L"));
        x.way(Runs.WINDOW, 1);
        due.is("BEATS", Runs.beats(x), "2202");
        due.is("clash(0) of two WORDS", x.clash(0), 0);
        due.is("clash(1) of two WORDS", x.clash(1), -2);
        x.way(Runs.WINDOW, 2);
        due.is("clash(1) of two WORDS by WINDOW 2", x.clash(1), 1);
        x.mark(1, 1);
        x.way(Runs.WINDOW, 1);
        due.is("BEATS marked", Runs.beats(x), "2022");
        due.is("clash(0) marked", x.clash(0), 2);
        Runs.retype(x, Runs.shaped("LLLL LLL"));
        x.way(Runs.REST, 0);
        x.way(Runs.WINDOW, 3);
        due.is("BEATS", Runs.beats(x), "2010020");
        due.is("clash(1), 3 apart", x.clash(1), 2);
        x.way(Runs.WINDOW, 2);
        due.is("clash(1), 3 apart by WINDOW 2", x.clash(1), -2);
        due.is("count(8)", x.count(8), 0);
    }

    private static BeatWords shaped(String shape, int sort, int from, int rest, int main) {
        BeatWords x = Runs.typed(Runs.shaped(shape));
        x.way(Runs.SORT, sort);
        x.way(Runs.FROM, from);
        x.way(Runs.REST, rest);
        x.way(Runs.MAIN, main);
        return x;
    }

    private static void hear(BeatWords x, int window, String beats, String heard, String counts) {
        x.way(Runs.WINDOW, window);
        due.is("BEATS", Runs.beats(x), beats);
        due.is("HEARD by WINDOW " + window + " of " + beats, Runs.heard(x), heard);
        due.is("heard() by WINDOW " + window + " of " + beats, Runs.heardCounts(x), counts);
    }

    private static void hearing() {
        due.promise("promise 13");
        BeatWords x = shaped("LLLLL", 0, 1, 1, 0);
        hear(x, 0, "21010", "21010", "0 0 0 0");
        hear(x, 1, "21010", "20010", "1 0 1 0");
        hear(x, 2, "21010", "20010", "1 0 2 0");
        hear(x, 3, "21010", "20000", "2 0 2 0");
        x.way(Runs.MAIN, 1);
        hear(x, 1, "11020", "01020", "1 0 1 0");
        hear(x, 2, "11020", "00020", "2 0 2 0");
        hear(shaped("LLLL L", 2, 0, 0, 1), 1, "01022", "02002", "1 0 1 0");
        hear(shaped("LLLLLL L", 2, 0, 0, 1), 1, "0101022", "0102002", "1 0 1 0");
        hear(shaped("L LLLL", 0, 0, 0, 0), 1, "22010", "20020", "1 0 1 0");
        hear(shaped("L LLLLLL", 0, 0, 0, 0), 1, "2201010", "2002010", "1 0 1 0");
        hear(shaped("L L", 0, 0, 0, 0), 1, "22", "22", "0 1 1 1");
        hear(shaped("L L L", 0, 0, 0, 0), 1, "222", "222", "0 2 2 2");
        hear(shaped("L L LLLL", 0, 0, 0, 0), 1, "222010", "220020", "1 1 2 1");
        x = Runs.typed("ba babababa dadadada");
        x.mark(1, 3);
        hear(x, 0, "210022010", "210022010", "0 0 0 0");
        hear(x, 1, "210022010", "200020020", "2 0 2 0");
        x = Runs.typed("babababa dadadada");
        x.mark(0, 3);
        hear(x, 1, "10022010", "20002010", "1 0 1 0");
        hear(x, 2, "10022010", "20002000", "2 0 2 0");
        x = Runs.typed("ba");
        hear(x, 3, "2", "2", "0 0 0 0");
        x.wipe();
        due.is("heard() of none", Runs.heardCounts(x), "0 0 0 0");
        x = Runs.typed("da babababa da");
        x.mark(1, 3);
        x.way(Runs.SORT, 2);
        hear(x, 1, "201022", "202002", "1 0 1 0");
        hear(x, 2, "201022", "200022", "1 1 3 1");
        // what has moved clashes again where it comes to
        hear(shaped("L LLL", 0, 0, 1, 0), 3, "2201", "2002", "1 1 2 1");
        hear(shaped("L LLLLL", 0, 0, 1, 0), 3, "220101", "200002", "2 0 3 0");
        hear(shaped("L LLLLLL", 0, 0, 0, 0), 2, "2201010", "2002000", "2 0 3 0");
        hear(shaped("L LLL L", 0, 0, 1, 0), 1, "22012", "20022", "1 1 2 1");
    }

    private static void heardBadly() {
        due.promise("promise 13");
        BeatWords x = Runs.typed("baba");
        due.is("heard(-1)", x.heard(-1), -2);
        due.is("heard(4)", x.heard(4), -2);
        due.is("heard(most)", x.heard(Integer.MAX_VALUE), -2);
        due.is("count(8)", x.count(8), 0);
    }

    private static void tell() {
        due.promise("promise 14");
        BeatWords x = Runs.typed("bababa");
        due.is("tell(0, 2)", x.tell(0, 2), 0);
        due.is("tell(0, 1)", x.tell(0, 1), 2);
        due.is("tell(0, 0)", x.tell(0, 0), 1);
        due.is("tell(0, 1)", x.tell(0, 1), 0);
        due.is("tell(2, 2)", x.tell(2, 2), 0);
        due.is("tell(3, 1)", x.tell(3, 1), -2);
        due.is("tell(-1, 1)", x.tell(-1, 1), -2);
        due.is("tell(0, 3)", x.tell(0, 3), -2);
        due.is("tell(0, -1)", x.tell(0, -1), -2);
        due.is("tell(most, 1)", x.tell(Integer.MAX_VALUE, 1), -2);
        due.is("told", Runs.told(x), "102");
        due.is("beats", Runs.beats(x), "200");
        due.is("count(8)", x.count(8), 0);
        x.type('A');
        due.is("tell(0, 1) with a FLAW", x.tell(0, 1), -2);
    }

    private static void copyHeard() {
        due.promise("promise 15");
        BeatWords x = Runs.typed("banana kalamazoo");
        due.is("copyHeard()", x.copyHeard(), 3);
        due.is("told", Runs.told(x), "2002010");
        due.is("near()", x.near(), 7);
        Runs.tell(x, "1111111");
        x.way(Runs.WINDOW, 2);
        due.is("copyHeard() by WINDOW 2", x.copyHeard(), 2);
        due.is("told", Runs.told(x), "2002000");
        x.wipe();
        due.is("copyHeard() of none", x.copyHeard(), 0);
        // TOLD of SYLLABLES that are not there by these WAYS is left
        x = Runs.typed("baibai");
        Runs.tell(x, "1121");
        x.count(6);
        x.way(Runs.TWINS, 1);
        due.is("copyHeard() of two", x.copyHeard(), 1);
        x.way(Runs.TWINS, 0);
        due.is("told", Runs.told(x), "2021");
    }

    private static void near() {
        due.promise("promise 16");
        BeatWords x = Runs.typed("banana kalamazoo");
        due.is("near() of none told", x.near(), 4);
        Runs.tell(x, "2");
        due.is("near()", x.near(), 5);
        Runs.tell(x, "1");
        due.is("near() of another BEAT", x.near(), 4);
        Runs.tell(x, "2002010");
        due.is("near() of all", x.near(), 7);
        x.way(Runs.WINDOW, 2);
        due.is("near() as HEARD", x.near(), 6);
        x.way(Runs.WINDOW, 0);
        x.mark(0, 1);
        due.is("near() marked", x.near(), 5);
        x.wipe();
        due.is("near() of none", x.near(), 0);
    }

    private static void nearestOf(String shape, String told, String want) {
        BeatWords x = Runs.typed(Runs.shaped(shape));
        x.way(Runs.SORT, 2);
        x.way(Runs.FROM, 1);
        x.way(Runs.REST, 1);
        x.way(Runs.MAIN, 2);
        Runs.tell(x, told);
        due.is("nearest() of " + shape + " told " + told, Runs.nearest(x), want);
        due.is("ways stay", x.way(4, 0) + 3 * x.way(5, 0) + 9 * x.way(6, 0) + 27 * x.way(7, 0), 2 + 3 + 9 + 54);
    }

    private static void nearest() {
        due.promise("promise 17");
        nearestOf("LLL", "002", "2 1 0 0 3");
        nearestOf("LLL", "102", "0 0 1 1 3");
        nearestOf("LLL", "020", "0 1 0 0 3");
        nearestOf("LLL", "000", "0 0 0 0 2");
        nearestOf("LLL", "012", "2 0 1 1 3");
        nearestOf("LLL", "120", "0 1 1 1 3");
        nearestOf("LLL", "021", "2 0 1 0 3");
        nearestOf("LLHLL", "10210", "1 0 0 2 5");
        nearestOf("LHLLH", "02001", "2 1 0 0 5");
        BeatWords x = Runs.typed(Runs.shaped("LLL"));
        due.is("nearest() untold", Runs.nearest(x), "0 0 0 0 2");
        x.tell(2, 2);
        due.is("nearest() behind tell()", Runs.nearest(x), "2 1 0 0 3");
        x.mark(0, 2);
        due.is("nearest() behind mark()", Runs.nearest(x), "0 1 0 0 3");
        x.unmark(0);
        due.is("nearest() behind unmark()", Runs.nearest(x), "2 1 0 0 3");
        x.way(Runs.EDGE, 2);
        due.is("nearest() behind way()", Runs.nearest(x), "0 0 0 0 1");
        x.copyHeard();
        due.is("nearest() behind copyHeard()", Runs.nearest(x), "0 0 0 0 3");
        x.way(Runs.EDGE, 0);
        Runs.retype(x, Runs.shaped("LLLLL"));
        x.way(Runs.WINDOW, 3);
        Runs.tell(x, "00020");
        due.is("nearest() as HEARD by WINDOW 3", Runs.nearest(x), "0 1 0 1 5");
        due.is("nearest(-1)", x.nearest(-1), -2);
        due.is("nearest(5)", x.nearest(5), -2);
        due.is("nearest(most)", x.nearest(Integer.MAX_VALUE), -2);
        due.is("count(8)", x.count(8), 0);
        x.way(Runs.SORT, 2);
        x.way(Runs.FROM, 1);
        x.way(Runs.REST, 1);
        x.way(Runs.MAIN, 2);
        x.wipe();
        due.is("nearest() of none", Runs.nearest(x), "0 0 0 0 0");
    }

    private static void learn() {
        due.promise("promise 18");
        BeatWords x = Runs.typed(Runs.shaped("LLL"));
        Runs.tell(x, "012");
        x.way(Runs.ONSET, 2);
        x.way(Runs.CODA, 2);
        due.is("learn()", x.learn(), 3);
        due.is("heard", Runs.heard(x), "012");
        due.is("told", Runs.told(x), "012");
        due.is("near()", x.near(), 3);
        int[] ways = {0, 2, 2, 0, 2, 0, 1, 1, 0};
        for (int k = 0; k < 9; k++) {
            due.is("way(" + k + ", 1)", x.way(k, 1), ways[k]);
        }
        x = Runs.typed(Runs.shaped("LLL"));
        Runs.tell(x, "000");
        x.way(Runs.SORT, 1);
        x.way(Runs.MAIN, 2);
        due.is("learn() of like ones", x.learn(), 2);
        due.is("way(4, 0)", x.way(4, 0), 0);
        due.is("way(7, 2)", x.way(7, 2), 0);
        x.way(Runs.FROM, 1);
        x.wipe();
        due.is("learn() of none", x.learn(), 0);
        due.is("way(5, 0)", x.way(5, 0), 0);
        due.is("way(7, 0)", x.way(7, 0), 0);
        x = Runs.typed(Runs.shaped("LLHLL"));
        Runs.tell(x, "10210");
        due.is("learn()", x.learn(), 5);
        due.is("way(4, 0)", x.way(4, 0), 1);
        due.is("way(7, 0)", x.way(7, 0), 2);
    }

    private static void share() {
        due.promise("promise 19");
        BeatWords x = Runs.typed("banana kalamazoo");
        due.is("share(0)", x.share(0), Float.floatToIntBits(4f / 7f));
        due.is("share(1)", x.share(1), Float.floatToIntBits(1f / 7f));
        due.is("share(2)", x.share(2), Float.floatToIntBits(3f / 8f));
        x.copyHeard();
        due.is("share(0) of all", x.share(0), Float.floatToIntBits(1f));
        x.way(Runs.WINDOW, 2);
        due.is("share(2) by WINDOW 2", x.share(2), Float.floatToIntBits(2f / 8f));
        due.is("share(-1)", x.share(-1), 0);
        due.is("share(3)", x.share(3), 0);
        due.is("share(least)", x.share(Integer.MIN_VALUE), 0);
        due.is("count(8)", x.count(8), 0);
        x = Runs.typed("ba");
        due.is("share(0) of 0 by 1", x.share(0), 0);
        due.is("share(1) of 0 by 1", x.share(1), 0);
        due.is("share(2) of all", x.share(2), 0x3f800000);
        x.wipe();
        for (int what = 0; what <= 2; what++) {
            due.is("share(" + what + ") of none", x.share(what), 0);
        }
        // each part of each whole that SYLLABLES can have
        StringBuilder most = new StringBuilder();
        for (int n = 1; n <= 60; n++) {
            most.append(n % 2 == 0 ? 'e' : 'a');
            x = Runs.typed(most.toString());
            x.copyHeard();
            for (int part = n; part >= 0; part--) {
                due.is("share(0) of " + part + " by " + n, x.share(0), Float.floatToIntBits((float) part / (float) n));
                if (part > 0) {
                    int k = n - part;
                    x.tell(k, x.syllable(k, 6) == 1 ? 0 : 1);
                }
            }
        }
    }

    private static void text() {
        due.promise("promise 20");
        BeatWords x = Runs.typed("banana kalamazoo");
        due.is("text", Runs.shown(x), "'ba.na.na 'ka.la.,ma.zoo");
        due.is("text(-1)", x.text(-1), 24);
        due.is("text(0)", x.text(0), '\'');
        due.is("text(23)", x.text(23), 'o');
        due.is("text(24)", x.text(24), -2);
        due.is("text(-2)", x.text(-2), -2);
        due.is("text(most)", x.text(Integer.MAX_VALUE), -2);
        due.is("text(least)", x.text(Integer.MIN_VALUE), -2);
        due.is("count(8)", x.count(8), 0);
        x.way(Runs.WINDOW, 2);
        due.is("text as HEARD", Runs.shown(x), "'ba.na.na 'ka.la.ma.zoo");
        x.way(Runs.MAIN, 1);
        x.way(Runs.WINDOW, 0);
        due.is("text by MAIN 1", Runs.shown(x), "'ba.na.na ,ka.la.'ma.zoo");
        x.type(' ');
        due.is("text(-1) with a FLAW", x.text(-1), 0);
        due.is("text(0) with a FLAW", x.text(0), -2);
        Runs.retype(x, "a");
        due.is("text of one", Runs.shown(x), "'a");
        Runs.retype(x, "strengths an");
        due.is("text of two", Runs.shown(x), "'strengths 'an");
        StringBuilder most = new StringBuilder();
        for (int i = 0; i < 30; i++) {
            most.append("ae");
        }
        Runs.retype(x, most.toString());
        x.way(Runs.SORT, 1);
        due.is("text(-1) of 60 SYLLABLES", x.text(-1), 60 + 59 + 30);
        due.is("text(148)", x.text(148), 'e');
        due.is("text(149)", x.text(149), -2);
    }
}
