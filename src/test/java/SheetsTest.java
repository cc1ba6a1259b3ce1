/** Promises 21 to 28: sheets, counts, the digest. */
public final class SheetsTest {
    private static final Due due = new Due();
    private static final int LEAST = Integer.MIN_VALUE, MOST = Integer.MAX_VALUE;

    public static void main(String[] args) {
        sheet();
        lose();
        put();
        get();
        copy();
        copyOrder();
        write();
        count();
        digest();
        due.end();
    }

    private static void sheet() {
        due.promise("promise 21");
        BeatWords x = new BeatWords();
        due.is("sheet(-1, 0, 0)", x.sheet(-1, 0, 0), -2);
        due.is("sheet(4, 0, 0)", x.sheet(4, 0, 0), -2);
        due.is("sheet(0, -1, 0)", x.sheet(0, -1, 0), -2);
        due.is("sheet(0, 3, 0)", x.sheet(0, 3, 0), -2);
        due.is("sheet(0, 0, 61)", x.sheet(0, 0, 61), -2);
        due.is("sheet(0, 0, most)", x.sheet(0, 0, MOST), -2);
        due.is("sheet(4, 0, -1)", x.sheet(4, 0, -1), -2);
        due.is("sheet(0, 3, -1)", x.sheet(0, 3, -1), -2);
        due.is("count(8)", x.count(8), 0);
        due.is("sheet(0, 0, -1)", x.sheet(0, 0, -1), Runs.SIZE);
        due.is("count(8)", x.count(8), 5);
        due.is("sheet(0, 0, least)", x.sheet(0, 0, LEAST), Runs.SIZE);
        due.is("lose(0), still LOST", x.lose(0), Runs.NULL);
        for (int form = 0; form <= 2; form++) {
            due.is("sheet(3, " + form + ", 60)", x.sheet(3, form, 60), 60);
            due.is("get(3, 59)", x.get(3, 59), 0);
            due.is("put", x.put(3, form, 59, 16), 1);
            due.is("get(3, 60)", x.get(3, 60), LEAST);
            due.is("sheet(3, " + form + ", 61)", x.sheet(3, form, 61), -2);
            due.is("sheet(3, " + form + ", -1)", x.sheet(3, form, -1), Runs.SIZE);
            due.is("get(3, 59) behind refusals", x.get(3, 59), 16);
        }
        due.is("sheet(3, 2, 0)", x.sheet(3, 2, 0), 0);
        due.is("get(3, 0)", x.get(3, 0), LEAST);
        due.is("count(8)", x.count(8), 2);
        due.is("sheet(3, 1, 60)", x.sheet(3, 1, 60), 60);
        for (int i = 0; i < 60; i++) {
            due.is("get(3, " + i + ") of a new row", x.get(3, i), 0);
            x.put(3, 1, i, i + 1);
        }
        due.is("sheet(3, 1, 4)", x.sheet(3, 1, 4), 4);
        due.is("a new row", Runs.items(x, 3, 4), "0 0 0 0");
        x.sheet(3, 2, 2);
        x.put(3, 2, 1, 24);
        x.sheet(3, 0, 2);
        x.sheet(3, 2, 2);
        due.is("a new row of floats", Runs.items(x, 3, 2), "0 0");
        x.sheet(0, 1, 3);
        due.is("lose(3), another SHEET", x.lose(3), 2);
        due.is("lose(0)", x.lose(0), 3);
    }

    private static void lose() {
        due.promise("promise 22");
        BeatWords x = new BeatWords();
        due.is("lose(-1)", x.lose(-1), -2);
        due.is("lose(4)", x.lose(4), -2);
        due.is("lose(most)", x.lose(MOST), -2);
        due.is("count(8)", x.count(8), 0);
        due.is("lose(0)", x.lose(0), Runs.NULL);
        due.is("count(8)", x.count(8), 1);
        x.sheet(0, 1, 60);
        x.sheet(1, 2, 0);
        x.sheet(2, 0, 7);
        due.is("lose(0)", x.lose(0), 60);
        due.is("lose(0) again", x.lose(0), Runs.NULL);
        due.is("lose(1)", x.lose(1), 0);
        due.is("lose(1) again", x.lose(1), Runs.NULL);
        due.is("lose(2)", x.lose(2), 7);
        due.is("put", x.put(2, 0, 0, 1), Runs.NULL);
    }

    private static void put() {
        due.promise("promise 23");
        BeatWords x = new BeatWords();
        due.is("put(-1, 0, 0, 0)", x.put(-1, 0, 0, 0), -2);
        due.is("put(4, 0, 0, 0)", x.put(4, 0, 0, 0), -2);
        due.is("put(0, -1, 0, 0)", x.put(0, -1, 0, 0), -2);
        due.is("put(0, 3, 0, 0)", x.put(0, 3, 0, 0), -2);
        due.is("count(8)", x.count(8), 0);
        due.is("put(0, 0, -1, 0) of a LOST one", x.put(0, 0, -1, 0), Runs.NULL);
        x.sheet(0, 0, 3);
        x.sheet(1, 1, 3);
        x.sheet(2, 2, 3);
        due.is("put(0, 1, 9, 0)", x.put(0, 1, 9, 0), Runs.CAST);
        due.is("count(8)", x.count(8), 3);
        due.is("put(0, 2, 0, 0)", x.put(0, 2, 0, 0), Runs.CAST);
        due.is("put(1, 0, 0, 0)", x.put(1, 0, 0, 0), Runs.CAST);
        due.is("put(2, 1, 0, 0)", x.put(2, 1, 0, 0), Runs.CAST);
        due.is("put(0, 3, 9, 0)", x.put(0, 3, 9, 0), -2);
        for (int s = 0; s <= 2; s++) {
            due.is("put(" + s + ", -1)", x.put(s, s, -1, 5), Runs.INDEX);
            due.is("count(8)", x.count(8), 2);
            due.is("put(" + s + ", 3)", x.put(s, s, 3, 5), Runs.INDEX);
            due.is("put(" + s + ", most)", x.put(s, s, MOST, 5), Runs.INDEX);
            due.is("put(" + s + ", least)", x.put(s, s, LEAST, 5), Runs.INDEX);
            due.is("items behind refusals", Runs.items(x, s, 3), "0 0 0");
            due.is("put(" + s + ", 2)", x.put(s, s, 2, 40), 1);
            due.is("items", Runs.items(x, s, 3), "0 0 40");
        }
        int[][] bytes = {{127, 127}, {128, -128}, {255, -1}, {256, 0}, {-129, 127}, {LEAST, 0}, {MOST, -1}};
        for (int[] two : bytes) {
            x.put(0, 0, 1, two[0]);
            due.is("a byte of " + two[0], x.get(0, 1), two[1]);
        }
        int[] ints = {LEAST, MOST, -1, 0, 300};
        for (int v : ints) {
            x.put(1, 1, 1, v);
            due.is("an int of " + v, x.get(1, 1), v);
        }
        int[][] floats = {{LEAST, LEAST}, {MOST, MOST}, {-1, -1}, {3, 3}, {16777217, 16777216},
            {16777219, 16777220}, {-16777217, -16777216}, {2147483583, 2147483520}, {2147483584, MOST}};
        for (int[] two : floats) {
            x.put(2, 2, 1, two[0]);
            due.is("a float of " + two[0], x.get(2, 1), two[1]);
        }
    }

    private static void get() {
        due.promise("promise 24");
        BeatWords x = new BeatWords();
        due.is("get(-1, 0)", x.get(-1, 0), LEAST);
        due.is("get(4, 0)", x.get(4, 0), LEAST);
        due.is("count(8)", x.count(8), 0);
        due.is("get(0, 0)", x.get(0, 0), LEAST);
        due.is("count(8)", x.count(8), 1);
        x.sheet(0, 1, 2);
        due.is("get(0, 2)", x.get(0, 2), LEAST);
        due.is("count(8)", x.count(8), 2);
        due.is("get(1, -1), LOST", x.get(1, -1), LEAST);
        due.is("count(8)", x.count(8), 1);
        due.is("get(0, -1)", x.get(0, -1), LEAST);
        due.is("count(8)", x.count(8), 2);
        due.is("get(0, most)", x.get(0, MOST), LEAST);
        due.is("get(0, least)", x.get(0, LEAST), LEAST);
        x.put(0, 1, 0, 7);
        x.put(0, 1, 1, -7);
        due.is("get(0, 0)", x.get(0, 0), 7);
        due.is("get(0, 1)", x.get(0, 1), -7);
        due.is("count(8) stays", x.count(8), 2);
    }

    private static void fill(BeatWords x, int s, int form, int first) {
        x.sheet(s, form, 5);
        for (int i = 0; i < 5; i++) {
            x.put(s, form, i, first + i);
        }
    }

    private static void copy() {
        due.promise("promise 25");
        for (int form = 0; form <= 2; form++) {
            BeatWords x = new BeatWords();
            fill(x, 0, form, 1);
            fill(x, 1, form, 11);
            due.is("copy(0, 1, 1, 2, 3)", x.copy(0, 1, 1, 2, 3), 1);
            due.is("to", Runs.items(x, 1, 5), "11 12 2 3 4");
            due.is("from", Runs.items(x, 0, 5), "1 2 3 4 5");
            due.is("copy(0, 0, 0, 1, 4)", x.copy(0, 0, 0, 1, 4), 1);
            due.is("itself, behind", Runs.items(x, 0, 5), "1 1 2 3 4");
            fill(x, 0, form, 1);
            due.is("copy(0, 1, 0, 0, 4)", x.copy(0, 1, 0, 0, 4), 1);
            due.is("itself, ahead", Runs.items(x, 0, 5), "2 3 4 5 5");
            due.is("copy(0, 2, 0, 2, 2)", x.copy(0, 2, 0, 2, 2), 1);
            due.is("itself, in place", Runs.items(x, 0, 5), "2 3 4 5 5");
            due.is("copy(0, 0, 1, 0, 5)", x.copy(0, 0, 1, 0, 5), 1);
            due.is("all", Runs.items(x, 1, 5), "2 3 4 5 5");
            due.is("copy(0, 5, 1, 5, 0)", x.copy(0, 5, 1, 5, 0), 1);
            due.is("copy(0, 0, 1, 3, 0)", x.copy(0, 0, 1, 3, 0), 1);
            due.is("none", Runs.items(x, 1, 5), "2 3 4 5 5");
            due.is("count(8)", x.count(8), 0);
            int[][] bad = {{-1, 0, 1}, {0, -1, 1}, {0, 0, -1}, {0, 0, 6}, {1, 0, 5}, {0, 1, 5}, {5, 0, 1},
                {0, 5, 1}, {6, 0, 0}, {0, 6, 0}, {-1, 0, 0}, {0, -1, 0}, {MOST, 0, 1}, {0, MOST, 1},
                {0, 0, MOST}, {MOST, 0, MOST}, {1, 1, MOST}, {LEAST, 0, 1}, {0, LEAST, 1}, {0, 0, LEAST},
                {LEAST, LEAST, LEAST}, {5, 5, LEAST}};
            for (int[] b : bad) {
                due.is("copy of " + b[0] + ", " + b[1] + ", " + b[2], x.copy(1, b[0], 0, b[1], b[2]), Runs.INDEX);
                due.is("count(8)", x.count(8), 2);
            }
            due.is("items behind refusals", Runs.items(x, 0, 5), "2 3 4 5 5");
        }
    }

    private static void copyOrder() {
        BeatWords x = new BeatWords();
        due.is("copy(-1, 0, 0, 0, 1)", x.copy(-1, 0, 0, 0, 1), -2);
        due.is("copy(0, 0, 4, 0, 1)", x.copy(0, 0, 4, 0, 1), -2);
        due.is("copy(4, 0, 0, 0, 1)", x.copy(4, 0, 0, 0, 1), -2);
        due.is("copy(0, 0, -1, 0, 1)", x.copy(0, 0, -1, 0, 1), -2);
        due.is("count(8)", x.count(8), 0);
        due.is("copy(0, 0, 1, 0, 1), both LOST", x.copy(0, 0, 1, 0, 1), Runs.NULL);
        due.is("count(8)", x.count(8), 1);
        x.sheet(0, 0, 2);
        due.is("copy(0, 0, 1, 0, 1), t LOST", x.copy(0, 0, 1, 0, 1), Runs.NULL);
        due.is("copy(1, 0, 0, 0, 1), s LOST", x.copy(1, 0, 0, 0, 1), Runs.NULL);
        due.is("copy(1, -1, 0, 0, 1), s LOST", x.copy(1, -1, 0, 0, 1), Runs.NULL);
        x.sheet(1, 1, 2);
        due.is("copy(0, 0, 1, 0, 1), unlike", x.copy(0, 0, 1, 0, 1), Runs.STORE);
        due.is("count(8)", x.count(8), 4);
        due.is("copy(0, 9, 1, 0, 1), unlike", x.copy(0, 9, 1, 0, 1), Runs.STORE);
        due.is("copy(0, 0, 1, 0, 0), unlike", x.copy(0, 0, 1, 0, 0), Runs.STORE);
        x.sheet(2, 2, 2);
        due.is("copy(2, 0, 1, 0, 1), unlike", x.copy(2, 0, 1, 0, 1), Runs.STORE);
        x.sheet(3, 1, 1);
        x.put(1, 1, 1, 9);
        due.is("copy(1, 0, 3, 0, 2), too many there", x.copy(1, 0, 3, 0, 2), Runs.INDEX);
        due.is("copy(3, 0, 1, 0, 2), too many here", x.copy(3, 0, 1, 0, 2), Runs.INDEX);
        due.is("copy(1, 1, 3, 0, 1)", x.copy(1, 1, 3, 0, 1), 1);
        due.is("get(3, 0)", x.get(3, 0), 9);
    }

    private static void write() {
        due.promise("promise 26");
        BeatWords x = Runs.typed("banana kalamazoo");
        due.is("write(-1)", x.write(-1), -2);
        due.is("write(4)", x.write(4), -2);
        due.is("count(8)", x.count(8), 0);
        due.is("write(0)", x.write(0), Runs.NULL);
        due.is("count(8)", x.count(8), 1);
        for (int form = 0; form <= 1; form++) {
            x.sheet(form, form, 9);
            x.put(form, form, 7, 5);
            x.put(form, form, 1, 5);
            due.is("write(" + form + ")", x.write(form), 7);
            due.is("items", Runs.items(x, form, 9), "2 0 0 2 0 1 0 5 0");
            x.sheet(form, form, 4);
            due.is("write(" + form + ") of 4", x.write(form), 4);
            due.is("items", Runs.items(x, form, 4), "2 0 0 2");
            x.sheet(form, form, 0);
            due.is("write(" + form + ") of none", x.write(form), 0);
        }
        x.way(Runs.WINDOW, 2);
        x.sheet(0, 1, 7);
        x.write(0);
        due.is("items as HEARD", Runs.items(x, 0, 7), "2 0 0 2 0 0 0");
        // BEAT by MORAS: 2 by 1, 2 by 2, 2 by 3, 2 by 4, 1 by 3
        x = Runs.typed("ba baa baan baanks bababans");
        x.way(Runs.CODA, 2);
        x.way(Runs.REST, 1);
        x.sheet(2, 2, 7);
        due.is("MORAS", Runs.row(x, 3), "1234113");
        due.is("BEATS", Runs.heard(x), "2222201");
        due.is("write(2) of floats", x.write(2), 7);
        due.is("items of floats", Runs.items(x, 2, 7), "16 8 5 4 16 0 2");
        Runs.retype(x, "ba");
        due.is("write(2) of one", x.write(2), 1);
        x.wipe();
        due.is("write(2) without SYLLABLES", x.write(2), 0);
        due.is("items of floats", Runs.items(x, 2, 7), "16 8 5 4 16 0 2");
        due.is("lose(2)", x.lose(2), 7);
        due.is("write(2) of a LOST one", x.write(2), Runs.NULL);
    }

    private static void count() {
        due.promise("promise 27");
        BeatWords x = Runs.typed("banana kalamazoo");
        due.is("counts", Runs.counts(x), "16 2 7 3 1 0 3 8 0");
        due.is("count(-1)", x.count(-1), -2);
        due.is("count(9)", x.count(9), -2);
        due.is("count(most)", x.count(MOST), -2);
        due.is("count(8) behind a refusal", x.count(8), 0);
        x.mark(0, 1);
        x.lose(0);
        x.way(Runs.WINDOW, 2);
        due.is("counts", Runs.counts(x), "16 2 7 3 1 1 2 8 1");
        x.way(Runs.SORT, 1);
        x.way(Runs.CODA, 1);
        Runs.retype(x, "antan tanta a");
        x.sheet(0, 0, -1);
        x.way(Runs.WINDOW, 0);
        due.is("counts", Runs.counts(x), "13 3 5 4 3 1 4 8 5");
        x.get(0, 0);
        due.is("count(8)", x.count(8), 1);
        x.sheet(0, 0, 1);
        x.get(0, 1);
        due.is("count(8)", x.count(8), 2);
        x.put(0, 1, 1, 1);
        due.is("count(8)", x.count(8), 3);
        x.sheet(1, 1, 1);
        x.copy(0, 0, 1, 0, 1);
        due.is("count(8)", x.count(8), 4);
        x.wipe();
        due.is("counts", Runs.counts(x), "0 0 0 0 0 1 0 0 4");
    }

    private static BeatWords digested(String text, int window) {
        BeatWords x = Runs.typed(text);
        x.way(Runs.WINDOW, window);
        x.way(Runs.REST, 1);
        Runs.tell(x, "0201020102");
        x.mark(0, 0);
        x.mark(1, 0);
        return x;
    }

    private static BeatWords learned(String text, int window) {
        BeatWords x = digested(text, window);
        x.learn();
        return x;
    }

    private static void digestOf(String text, int window) {
        BeatWords x = digested(text, window);
        long first = x.digest();
        due.is("digest() of <" + text + "> by " + window, first, Runs.digestByCalls(() -> digested(text, window)));
        due.is("digest() again", x.digest(), first);
        x.sheet(0, 0, -1);
        due.is("digest() behind a FINDING", x.digest(), first);
        x.learn();
        due.is("digest() behind learn()", x.digest(), Runs.digestByCalls(() -> learned(text, window)));
    }

    private static void digest() {
        due.promise("promise 28");
        String[] texts = {"", "a", "b", "banana kalamazoo", "ba ba ba", "babababa da dadadada fafa", "a a a ",
            "aeaeaeaeaeaeaeaeaeaeaeaeaeaeaeaeaeaeaeaeaeaeaeaeaeaeaeaeaeae"};
        for (String text : texts) {
            for (int window = 0; window <= 3; window++) {
                digestOf(text, window);
            }
        }
        BeatWords x = Runs.typed("ba");
        x.tell(0, 2);
        long[] all = {2, 1, 1, 1, 0, 0, 1, 1, -1, 0, 1, 1, 0, 0, 0, -1, 0, 0, 2, 1, 0, 2, 2, 2, 0, 0, 0, 0, 1,
            0, 0, 0, 0, 1, 0x3f800000, 0, 0x3f800000, 3, '\'', 'b', 'a'};
        long h = 17;
        for (long one : all) {
            h = 31 * h + one;
        }
        due.is("digest() of <ba>", x.digest(), h);
    }
}
