import java.math.BigInteger;

/** Promises 21 to 28: SHEETS, counts, the digest: a case for each boundary. */
public final class SheetsEdgesTest {
    private static final Due due = new Due();
    private static final int LEAST = Edges.LEAST, MOST = Edges.MOST;
    private static final int NULL = Runs.NULL, INDEX = Runs.INDEX, CAST = Runs.CAST, STORE = Runs.STORE,
        SIZE = Runs.SIZE;

    public static void main(String[] args) {
        Cases.run(SheetsEdgesTest.class, due);
    }

    /** As rich(), with a SHEET of it LOST. */
    private static BeatWords lost(int s) {
        BeatWords x = Edges.rich();
        x.lose(s);
        return x;
    }

    /** SHEET 0 of a FORM and a size. */
    private static BeatWords row(int form, int n) {
        BeatWords x = new BeatWords();
        x.sheet(0, form, n);
        return x;
    }

    /** SHEET s becomes a row of a FORM with items first, first + 1 and so on. */
    private static void fill(BeatWords x, int s, int form, int n, int first) {
        x.sheet(s, form, n);
        for (int i = 0; i < n; i++) {
            x.put(s, form, i, first + i);
        }
    }

    /** An answer of get() that is the least int with this FINDING, or with none. */
    private static void notGot(BeatWords x, int s, int i, int finding) {
        due.is("get(" + s + ", " + i + ")", x.get(s, i), LEAST);
        due.is("count(8) behind get(" + s + ", " + i + ")", x.count(8), finding);
    }

    // ---- promise 21: sheet

    static void p21_whatIsNoSheetIsBad() {
        Edges.bad(due, Edges::rich, "sheet(s, 1, 2)", 0, 3, (x, s) -> x.sheet(s, 1, 2));
    }

    static void p21_whatIsNoFormIsBad() {
        Edges.bad(due, Edges::rich, "sheet(0, form, 2)", 0, 2, (x, form) -> x.sheet(0, form, 2));
        Edges.bad(due, Edges::rich, "sheet(3, form, 0)", 0, 2, (x, form) -> x.sheet(3, form, 0));
    }

    static void p21_aboveSixtyIsBad() {
        for (int form = 0; form <= 2; form++) {
            int of = form;
            for (int n : new int[] {61, 62, 120, 256, 65536, 1 << 30, MOST - 1, MOST}) {
                Edges.refused(due, Edges::rich, "sheet(0, " + form + ", " + n + ")", x -> x.sheet(0, of, n), -2);
            }
        }
    }

    static void p21_belowNoneIsSize() {
        for (int form = 0; form <= 2; form++) {
            int of = form;
            for (int n : new int[] {-1, -2, -60, -61, -65536, LEAST + 1, LEAST}) {
                Edges.refused(due, () -> Edges.rich(1), "sheet(0, " + form + ", " + n + ")",
                    x -> x.sheet(0, of, n), SIZE);
            }
        }
    }

    static void p21_belowNoneALostOneStaysLost() {
        Edges.refused(due, () -> Edges.rich(1), "sheet(3, 1, -1)", x -> x.sheet(3, 1, -1), SIZE);
        BeatWords x = new BeatWords();
        x.sheet(2, 0, -1);
        due.is("lose(2)", x.lose(2), NULL);
    }

    static void p21_badIsAheadOfSize() {
        Edges.bad(due, () -> Edges.rich(1), "sheet(s, 1, -1)", 0, 3, (x, s) -> x.sheet(s, 1, -1));
        Edges.bad(due, () -> Edges.rich(1), "sheet(0, form, -1)", 0, 2, (x, form) -> x.sheet(0, form, -1));
    }

    static void p21_noneAndSixtyAreTaken() {
        for (int form = 0; form <= 2; form++) {
            for (int s = 0; s <= 3; s++) {
                BeatWords x = new BeatWords();
                due.is("sheet(" + s + ", " + form + ", 0)", x.sheet(s, form, 0), 0);
                due.is("put(" + s + ", 0) of none", x.put(s, form, 0, 1), INDEX);
                due.is("sheet(" + s + ", " + form + ", 1)", x.sheet(s, form, 1), 1);
                due.is("put(" + s + ", 0) of one", x.put(s, form, 0, 1), 1);
                due.is("put(" + s + ", 1) of one", x.put(s, form, 1, 1), INDEX);
                due.is("sheet(" + s + ", " + form + ", 60)", x.sheet(s, form, 60), 60);
                due.is("put(" + s + ", 59) of sixty", x.put(s, form, 59, 1), 1);
                due.is("put(" + s + ", 60) of sixty", x.put(s, form, 60, 1), INDEX);
                due.is("lose(" + s + ")", x.lose(s), 60);
            }
        }
    }

    static void p21_itsItemsAreNoneAtFirst() {
        for (int form = 0; form <= 2; form++) {
            BeatWords x = row(form, 60);
            for (int i = 0; i < 60; i++) {
                due.is("get(0, " + i + ")", x.get(0, i), 0);
            }
        }
    }

    static void p21_aNewRowHasNothingOfTheOldOne() {
        for (int old = 0; old <= 2; old++) {
            for (int form = 0; form <= 2; form++) {
                BeatWords x = new BeatWords();
                fill(x, 0, old, 9, 1);
                x.sheet(0, form, 9);
                due.is("items", Runs.items(x, 0, 9), "0 0 0 0 0 0 0 0 0");
            }
        }
    }

    static void p21_aSmallRowAndThenAGreatOne() {
        for (int form = 0; form <= 2; form++) {
            BeatWords x = new BeatWords();
            fill(x, 0, form, 60, 1);
            x.sheet(0, form, 2);
            due.is("get(0, 2)", x.get(0, 2), LEAST);
            x.sheet(0, form, 60);
            for (int i = 0; i < 60; i++) {
                due.is("get(0, " + i + ")", x.get(0, i), 0);
            }
        }
    }

    static void p21_aRowThatWasLostHasNothingOfTheOldOne() {
        for (int form = 0; form <= 2; form++) {
            BeatWords x = new BeatWords();
            fill(x, 0, form, 3, 1);
            x.lose(0);
            x.sheet(0, form, 3);
            due.is("items", Runs.items(x, 0, 3), "0 0 0");
        }
    }

    static void p21_otherSheetsStay() {
        BeatWords x = new BeatWords();
        for (int s = 0; s <= 3; s++) {
            fill(x, s, 1, 2, 10 * s);
        }
        x.sheet(1, 1, 2);
        due.is("items of 0", Runs.items(x, 0, 2), "0 1");
        due.is("items of 1", Runs.items(x, 1, 2), "0 0");
        due.is("items of 2", Runs.items(x, 2, 2), "20 21");
        due.is("items of 3", Runs.items(x, 3, 2), "30 31");
    }

    // ---- promise 22: lose

    static void p22_whatIsNoSheetIsBad() {
        Edges.bad(due, Edges::rich, "lose", 0, 3, (x, s) -> x.lose(s));
        Edges.bad(due, BeatWords::new, "lose", 0, 3, (x, s) -> x.lose(s));
    }

    static void p22_ofALostSheetItIsNull() {
        Edges.refused(due, Edges::rich, "lose(3)", x -> x.lose(3), NULL);
        for (int s = 0; s <= 3; s++) {
            int lost = s;
            Edges.refused(due, BeatWords::new, "lose(" + s + ")", x -> x.lose(lost), NULL);
        }
    }

    static void p22_aSecondTimeItIsNull() {
        for (int s = 0; s <= 2; s++) {
            int twice = s;
            Edges.refused(due, () -> lost(twice), "lose(" + s + ") again", x -> x.lose(twice), NULL);
        }
    }

    static void p22_ofNoneAndOfSixtyItems() {
        for (int form = 0; form <= 2; form++) {
            due.is("lose(0) of none", row(form, 0).lose(0), 0);
            due.is("lose(0) of one", row(form, 1).lose(0), 1);
            due.is("lose(0) of sixty", row(form, 60).lose(0), 60);
        }
    }

    static void p22_behindItEachActIsNull() {
        BeatWords x = Edges.rich();
        x.lose(0);
        due.is("put(0, 0, 0, 1)", x.put(0, 0, 0, 1), NULL);
        due.is("read(0)", x.read(0), NULL);
        due.is("write(0)", x.write(0), NULL);
        due.is("copy(0, 0, 0, 0, 0)", x.copy(0, 0, 0, 0, 0), NULL);
        notGot(x, 0, 0, 1);
    }

    static void p22_otherSheetsStay() {
        BeatWords x = Edges.rich();
        x.lose(1);
        due.is("lose(0)", x.lose(0), 3);
        due.is("lose(2)", x.lose(2), 2);
        due.is("lose(1)", x.lose(1), NULL);
    }

    // ---- promise 23: put

    static void p23_whatIsNoSheetIsBad() {
        Edges.bad(due, Edges::rich, "put(s, 1, 0, 7)", 0, 3, (x, s) -> x.put(s, 1, 0, 7));
        Edges.bad(due, BeatWords::new, "put(s, 1, 0, 7)", 0, 3, (x, s) -> x.put(s, 1, 0, 7));
    }

    static void p23_whatIsNoFormIsBad() {
        for (int s = 0; s <= 2; s++) {
            int of = s;
            Edges.bad(due, Edges::rich, "put(" + s + ", form, 0, 7)", 0, 2, (x, form) -> x.put(of, form, 0, 7));
        }
    }

    static void p23_badIsAheadOfNullCastAndIndex() {
        Edges.bad(due, Edges::rich, "put(3, form, 0, 7) of a LOST one", 0, 2, (x, form) -> x.put(3, form, 0, 7));
        Edges.bad(due, Edges::rich, "put(0, form, 9, 7)", 0, 2, (x, form) -> x.put(0, form, 9, 7));
        Edges.bad(due, Edges::rich, "put(s, 1, -1, 7)", 0, 3, (x, s) -> x.put(s, 1, -1, 7));
    }

    static void p23_ofALostSheetItIsNull() {
        for (int form = 0; form <= 2; form++) {
            int of = form;
            Edges.refused(due, Edges::rich, "put(3, " + form + ", 0, 7)", x -> x.put(3, of, 0, 7), NULL);
        }
    }

    static void p23_nullIsAheadOfCastAndIndex() {
        Edges.refused(due, Edges::rich, "put(3, 0, -1, 7)", x -> x.put(3, 0, -1, 7), NULL);
        Edges.refused(due, Edges::rich, "put(3, 0, 60, 7)", x -> x.put(3, 0, 60, 7), NULL);
        Edges.refused(due, () -> lost(1), "put(1, 0, 0, 7), once ints", x -> x.put(1, 0, 0, 7), NULL);
        Edges.refused(due, () -> lost(1), "put(1, 1, 9, 7), once ints", x -> x.put(1, 1, 9, 7), NULL);
    }

    static void p23_ofAnotherFormItIsCast() {
        for (int s = 0; s <= 2; s++) {
            for (int form = 0; form <= 2; form++) {
                int row = s;
                int as = form;
                if (form != s) {
                    Edges.refused(due, Edges::rich, "put(" + s + ", " + form + ", 0, 7)", x -> x.put(row, as, 0, 7),
                        CAST);
                }
            }
        }
    }

    static void p23_castIsAheadOfIndex() {
        for (int i : new int[] {-1, 3, 60, MOST, LEAST}) {
            Edges.refused(due, Edges::rich, "put(0, 1, " + i + ", 7)", x -> x.put(0, 1, i, 7), CAST);
            Edges.refused(due, Edges::rich, "put(2, 0, " + i + ", 7)", x -> x.put(2, 0, i, 7), CAST);
        }
    }

    static void p23_ofNoItemsAnotherFormIsCast() {
        for (int form = 0; form <= 2; form++) {
            due.is("put as of another FORM", row(form, 0).put(0, (form + 1) % 3, 0, 7), CAST);
            due.is("put as of its FORM", row(form, 0).put(0, form, 0, 7), INDEX);
        }
    }

    static void p23_anItemThatIsNotThereIsIndex() {
        int[] sizes = {3, 2, 2};
        for (int s = 0; s <= 2; s++) {
            int row = s;
            for (int i : Edges.outside(0, sizes[s] - 1)) {
                Edges.refused(due, Edges::rich, "put(" + s + ", " + s + ", " + i + ", 7)", x -> x.put(row, row, i, 7),
                    INDEX);
            }
        }
    }

    static void p23_theFirstAndTheLastItemAreTaken() {
        for (int form = 0; form <= 2; form++) {
            BeatWords x = row(form, 60);
            due.is("put(0)", x.put(0, form, 0, 7), 1);
            due.is("put(59)", x.put(0, form, 59, 9), 1);
            due.is("get(0, 0)", x.get(0, 0), 7);
            due.is("get(0, 1)", x.get(0, 1), 0);
            due.is("get(0, 58)", x.get(0, 58), 0);
            due.is("get(0, 59)", x.get(0, 59), 9);
        }
    }

    private static void put(int form, int v, int want) {
        BeatWords x = row(form, 3);
        due.is("put(0, " + form + ", 1, " + v + ")", x.put(0, form, 1, v), 1);
        due.is("items behind " + v, Runs.items(x, 0, 3), "0 " + want + " 0");
        due.is("count(8) behind " + v, x.count(8), 0);
    }

    static void p23_ofBytesTheLowestBits() {
        put(0, 0, 0);
        put(0, 127, 127);
        put(0, 128, -128);
        put(0, 129, -127);
        put(0, 255, -1);
        put(0, 256, 0);
        put(0, 257, 1);
        put(0, 383, 127);
        put(0, 384, -128);
        put(0, -1, -1);
        put(0, -128, -128);
        put(0, -129, 127);
        put(0, -256, 0);
        put(0, MOST, -1);
        put(0, LEAST, 0);
        put(0, LEAST + 127, 127);
    }

    static void p23_ofIntsAllBits() {
        put(1, 0, 0);
        put(1, 128, 128);
        put(1, 256, 256);
        put(1, -1, -1);
        put(1, 16777217, 16777217);
        put(1, MOST, MOST);
        put(1, LEAST + 1, LEAST + 1);
        put(1, LEAST, LEAST);
    }

    static void p23_ofFloatsAnEighth() {
        put(2, 0, 0);
        put(2, 1, 1);
        put(2, -1, -1);
        put(2, 7, 7);
        put(2, 256, 256);
        put(2, 16777216, 16777216);
        put(2, 16777217, 16777216);
        put(2, 16777219, 16777220);
        put(2, -16777217, -16777216);
        put(2, MOST, MOST);
        put(2, MOST - 63, MOST);
        put(2, MOST - 64, MOST - 127);
        put(2, MOST - 128, MOST - 127);
        put(2, LEAST, LEAST);
        put(2, LEAST + 1, LEAST);
    }

    static void p23_aLaterPutIsWhatStays() {
        for (int form = 0; form <= 2; form++) {
            BeatWords x = row(form, 2);
            x.put(0, form, 1, 5);
            x.put(0, form, 1, 0);
            due.is("items", Runs.items(x, 0, 2), "0 0");
        }
    }

    // ---- promise 24: get

    static void p24_whatIsNoSheetIsBad() {
        for (int s : Edges.outside(0, 3)) {
            Edges.refused(due, Edges::rich, "get(" + s + ", 0)", x -> x.get(s, 0), LEAST, 0);
            Edges.refused(due, Edges::rich, "get(" + s + ", -1)", x -> x.get(s, -1), LEAST, 0);
        }
    }

    static void p24_ofALostSheetItIsNull() {
        Edges.refused(due, Edges::rich, "get(3, 0)", x -> x.get(3, 0), LEAST, 1);
        for (int s = 0; s <= 2; s++) {
            int of = s;
            Edges.refused(due, () -> lost(of), "get(" + s + ", 0)", x -> x.get(of, 0), LEAST, 1);
        }
    }

    static void p24_nullIsAheadOfIndex() {
        for (int i : new int[] {-1, 60, LEAST, MOST}) {
            Edges.refused(due, Edges::rich, "get(3, " + i + ")", x -> x.get(3, i), LEAST, 1);
        }
    }

    static void p24_anItemThatIsNotThereIsIndex() {
        int[] sizes = {3, 2, 2};
        for (int s = 0; s <= 2; s++) {
            int row = s;
            for (int i : Edges.outside(0, sizes[s] - 1)) {
                Edges.refused(due, Edges::rich, "get(" + s + ", " + i + ")", x -> x.get(row, i), LEAST, 2);
            }
        }
    }

    static void p24_ofNoItemsItIsIndex() {
        for (int form = 0; form <= 2; form++) {
            notGot(row(form, 0), 0, 0, 2);
        }
    }

    static void p24_theFirstAndTheLastItem() {
        for (int form = 0; form <= 2; form++) {
            BeatWords x = new BeatWords();
            fill(x, 0, form, 60, 3);
            due.is("get(0, 0)", x.get(0, 0), 3);
            due.is("get(0, 59)", x.get(0, 59), 62);
            due.is("count(8)", x.count(8), 0);
            notGot(x, 0, 60, 2);
        }
    }

    static void p24_theLeastIntAsAnItemIsNoFinding() {
        BeatWords x = row(1, 1);
        x.put(0, 1, 0, LEAST);
        notGot(x, 0, 0, 0);
        x = row(2, 1);
        x.put(0, 2, 0, LEAST);
        notGot(x, 0, 0, 0);
    }

    static void p24_ofFloatsItIsCutTowardsNone() {
        // 2 by 3 is 5.33 eighths, 1 by 3 is 2.67
        BeatWords x = Runs.typed("bantbabant");
        x.way(Runs.CODA, 2);
        x.way(Runs.SORT, 1);
        x.sheet(0, 2, 3);
        due.is("MORAS", Runs.row(x, 3), "313");
        due.is("HEARD", Runs.heard(x), "201");
        x.write(0);
        due.is("items", Runs.items(x, 0, 3), "5 0 2");
    }

    // ---- promise 25: copy

    static void p25_whatIsNoSheetIsBad() {
        Edges.bad(due, Edges::rich, "copy(s, 0, 1, 0, 1)", 0, 3, (x, s) -> x.copy(s, 0, 1, 0, 1));
        Edges.bad(due, Edges::rich, "copy(1, 0, t, 0, 1)", 0, 3, (x, t) -> x.copy(1, 0, t, 0, 1));
        Edges.refused(due, Edges::rich, "copy(-1, 0, 4, 0, 1)", x -> x.copy(-1, 0, 4, 0, 1), -2);
    }

    static void p25_badIsAheadOfNullStoreAndIndex() {
        Edges.bad(due, Edges::rich, "copy(s, 0, 3, 0, 1), t LOST", 0, 3, (x, s) -> x.copy(s, 0, 3, 0, 1));
        Edges.bad(due, Edges::rich, "copy(3, 0, t, 0, 1), s LOST", 0, 3, (x, t) -> x.copy(3, 0, t, 0, 1));
        Edges.bad(due, Edges::rich, "copy(s, -1, 1, -1, -1)", 0, 3, (x, s) -> x.copy(s, -1, 1, -1, -1));
        Edges.bad(due, Edges::rich, "copy(1, -1, t, -1, -1)", 0, 3, (x, t) -> x.copy(1, -1, t, -1, -1));
    }

    static void p25_ofALostSheetItIsNull() {
        for (int s = 0; s <= 2; s++) {
            int of = s;
            Edges.refused(due, Edges::rich, "copy(3, 0, " + s + ", 0, 1)", x -> x.copy(3, 0, of, 0, 1), NULL);
            Edges.refused(due, Edges::rich, "copy(" + s + ", 0, 3, 0, 1)", x -> x.copy(of, 0, 3, 0, 1), NULL);
        }
        Edges.refused(due, Edges::rich, "copy(3, 0, 3, 0, 1)", x -> x.copy(3, 0, 3, 0, 1), NULL);
        Edges.refused(due, Edges::rich, "copy(3, 0, 3, 0, 0)", x -> x.copy(3, 0, 3, 0, 0), NULL);
    }

    static void p25_nullIsAheadOfStoreAndIndex() {
        Edges.refused(due, () -> lost(0), "copy(0, 0, 1, 0, 1), once bytes", x -> x.copy(0, 0, 1, 0, 1), NULL);
        Edges.refused(due, () -> lost(1), "copy(0, 0, 1, 0, 1), once ints", x -> x.copy(0, 0, 1, 0, 1), NULL);
        Edges.refused(due, Edges::rich, "copy(3, -1, 0, 0, 1)", x -> x.copy(3, -1, 0, 0, 1), NULL);
        Edges.refused(due, Edges::rich, "copy(0, 0, 3, 0, -1)", x -> x.copy(0, 0, 3, 0, -1), NULL);
        Edges.refused(due, Edges::rich, "copy(0, 9, 3, 9, 9)", x -> x.copy(0, 9, 3, 9, 9), NULL);
    }

    static void p25_unlikeFormsAreStore() {
        for (int s = 0; s <= 2; s++) {
            for (int t = 0; t <= 2; t++) {
                int from = s;
                int to = t;
                if (s != t) {
                    Edges.refused(due, Edges::rich, "copy(" + s + ", 0, " + t + ", 0, 1)",
                        x -> x.copy(from, 0, to, 0, 1), STORE);
                    Edges.refused(due, Edges::rich, "copy(" + s + ", 0, " + t + ", 0, 0)",
                        x -> x.copy(from, 0, to, 0, 0), STORE);
                }
            }
        }
    }

    static void p25_storeIsAheadOfIndex() {
        Edges.refused(due, Edges::rich, "copy(0, -1, 1, 0, 1)", x -> x.copy(0, -1, 1, 0, 1), STORE);
        Edges.refused(due, Edges::rich, "copy(0, 0, 1, -1, 1)", x -> x.copy(0, 0, 1, -1, 1), STORE);
        Edges.refused(due, Edges::rich, "copy(0, 0, 1, 0, -1)", x -> x.copy(0, 0, 1, 0, -1), STORE);
        Edges.refused(due, Edges::rich, "copy(1, 0, 2, 0, 61)", x -> x.copy(1, 0, 2, 0, 61), STORE);
    }

    /** SHEET 0 has five items, 1 to 5, SHEET 1 three, 11 to 13; a FINDING that is not INDEX is the latest. */
    private static BeatWords fiveAndThree(int form) {
        BeatWords x = new BeatWords();
        fill(x, 0, form, 5, 1);
        fill(x, 1, form, 3, 11);
        x.sheet(3, 0, -1);
        return x;
    }

    private static void index(int form, int s, int i, int t, int j, int n) {
        Edges.refused(due, () -> fiveAndThree(form), "copy(" + s + ", " + i + ", " + t + ", " + j + ", " + n + ")",
            x -> x.copy(s, i, t, j, n), INDEX);
    }

    static void p25_belowNoneIsIndex() {
        for (int form = 0; form <= 2; form++) {
            for (int v : new int[] {-1, -2, -5, -60, -256, LEAST + 1, LEAST}) {
                index(form, 0, v, 1, 0, 1);
                index(form, 0, 0, 1, v, 1);
                index(form, 0, 0, 1, 0, v);
                index(form, 0, v, 1, 0, 0);
                index(form, 0, 0, 1, v, 0);
                index(form, 0, v, 1, v, v);
                index(form, 0, 5, 1, 3, v);
            }
        }
    }

    static void p25_notSoManyThereIsIndex() {
        for (int form = 0; form <= 2; form++) {
            index(form, 1, 0, 0, 0, 4);
            index(form, 1, 1, 0, 0, 3);
            index(form, 1, 3, 0, 0, 1);
            index(form, 0, 0, 1, 0, 4);
            index(form, 0, 0, 1, 1, 3);
            index(form, 0, 0, 1, 3, 1);
            index(form, 0, 0, 0, 1, 5);
            index(form, 0, 1, 0, 0, 5);
            index(form, 0, 0, 0, 0, 6);
        }
    }

    static void p25_ofNoneAboveTheSizeIsIndex() {
        for (int form = 0; form <= 2; form++) {
            index(form, 0, 6, 1, 0, 0);
            index(form, 0, 0, 1, 4, 0);
            index(form, 0, MOST, 1, 0, 0);
            index(form, 0, 0, 1, MOST, 0);
        }
    }

    static void p25_sumsThatWrapAreIndex() {
        for (int form = 0; form <= 2; form++) {
            index(form, 0, 1, 1, 1, MOST);
            index(form, 0, MOST, 1, 0, MOST);
            index(form, 0, 0, 1, MOST, MOST);
            index(form, 0, 5, 1, 3, MOST - 2);
            index(form, 0, MOST, 1, 0, 1);
            index(form, 0, 0, 1, MOST, 1);
        }
    }

    static void p25_ofNoneAtTheSizeItIsTaken() {
        for (int form = 0; form <= 2; form++) {
            BeatWords x = fiveAndThree(form);
            due.is("copy(0, 5, 1, 3, 0)", x.copy(0, 5, 1, 3, 0), 1);
            due.is("copy(0, 0, 1, 0, 0)", x.copy(0, 0, 1, 0, 0), 1);
            due.is("copy(0, 5, 0, 5, 0)", x.copy(0, 5, 0, 5, 0), 1);
            due.is("items of 0", Runs.items(x, 0, 5), "1 2 3 4 5");
            due.is("items of 1", Runs.items(x, 1, 3), "11 12 13");
            due.is("count(8)", x.count(8), 5);
            x.sheet(2, form, 0);
            due.is("copy(2, 0, 2, 0, 0)", x.copy(2, 0, 2, 0, 0), 1);
            due.is("copy(2, 0, 1, 3, 0)", x.copy(2, 0, 1, 3, 0), 1);
            due.is("copy(1, 3, 2, 0, 0)", x.copy(1, 3, 2, 0, 0), 1);
            due.is("copy(2, 0, 1, 0, 1)", x.copy(2, 0, 1, 0, 1), INDEX);
            due.is("copy(1, 0, 2, 0, 1)", x.copy(1, 0, 2, 0, 1), INDEX);
        }
    }

    static void p25_asManyAsThereAre() {
        for (int form = 0; form <= 2; form++) {
            BeatWords x = fiveAndThree(form);
            due.is("copy(0, 2, 1, 0, 3)", x.copy(0, 2, 1, 0, 3), 1);
            due.is("items of 1", Runs.items(x, 1, 3), "3 4 5");
            due.is("copy(1, 0, 0, 0, 3)", x.copy(1, 0, 0, 0, 3), 1);
            due.is("items of 0", Runs.items(x, 0, 5), "3 4 5 4 5");
            due.is("copy(0, 4, 1, 2, 1)", x.copy(0, 4, 1, 2, 1), 1);
            due.is("copy(0, 0, 1, 0, 1)", x.copy(0, 0, 1, 0, 1), 1);
            due.is("items of 1", Runs.items(x, 1, 3), "3 4 5");
        }
    }

    static void p25_sixtyItems() {
        for (int form = 0; form <= 2; form++) {
            BeatWords x = new BeatWords();
            fill(x, 2, form, 60, 1);
            x.sheet(3, form, 60);
            due.is("copy(2, 0, 3, 0, 61)", x.copy(2, 0, 3, 0, 61), INDEX);
            due.is("copy(2, 0, 3, 0, 60)", x.copy(2, 0, 3, 0, 60), 1);
            for (int i = 0; i < 60; i++) {
                due.is("get(3, " + i + ")", x.get(3, i), i + 1);
            }
            due.is("copy(3, 0, 3, 1, 59)", x.copy(3, 0, 3, 1, 59), 1);
            for (int i = 0; i < 60; i++) {
                due.is("get(3, " + i + ")", x.get(3, i), i == 0 ? 1 : i);
            }
        }
    }

    static void p25_ofItselfTheItemsAreAsTheyWere() {
        for (int form = 0; form <= 2; form++) {
            BeatWords x = fiveAndThree(form);
            due.is("copy(0, 0, 0, 1, 4)", x.copy(0, 0, 0, 1, 4), 1);
            due.is("items moved behind", Runs.items(x, 0, 5), "1 1 2 3 4");
            x = fiveAndThree(form);
            due.is("copy(0, 1, 0, 0, 4)", x.copy(0, 1, 0, 0, 4), 1);
            due.is("items moved ahead", Runs.items(x, 0, 5), "2 3 4 5 5");
            x = fiveAndThree(form);
            due.is("copy(0, 0, 0, 2, 3)", x.copy(0, 0, 0, 2, 3), 1);
            due.is("items moved by two", Runs.items(x, 0, 5), "1 2 1 2 3");
            due.is("copy(0, 0, 0, 0, 5)", x.copy(0, 0, 0, 0, 5), 1);
            due.is("items in place", Runs.items(x, 0, 5), "1 2 1 2 3");
        }
    }

    static void p25_ofAnotherItLeavesItAsItWas() {
        for (int form = 0; form <= 2; form++) {
            BeatWords x = fiveAndThree(form);
            x.copy(0, 0, 1, 1, 2);
            x.put(0, form, 0, 50);
            due.is("items of 1", Runs.items(x, 1, 3), "11 1 2");
            x.put(1, form, 2, 60);
            due.is("items of 0", Runs.items(x, 0, 5), "50 2 3 4 5");
        }
    }

    static void p25_itemsThatAreNoWholeEighths() {
        BeatWords x = Runs.typed("bant");
        x.way(Runs.CODA, 2);
        x.sheet(0, 2, 1);
        x.sheet(1, 2, 2);
        x.write(0);
        due.is("copy(0, 0, 1, 1, 1)", x.copy(0, 0, 1, 1, 1), 1);
        due.is("items", Runs.items(x, 1, 2), "0 5");
    }

    // ---- promise 26: write

    static void p26_whatIsNoSheetIsBad() {
        Edges.bad(due, Edges::rich, "write", 0, 3, (x, s) -> x.write(s));
        Edges.bad(due, BeatWords::new, "write", 0, 3, (x, s) -> x.write(s));
    }

    static void p26_ofALostSheetItIsNull() {
        Edges.refused(due, Edges::rich, "write(3)", x -> x.write(3), NULL);
        for (int s = 0; s <= 2; s++) {
            int of = s;
            Edges.refused(due, () -> lost(of), "write(" + s + ")", x -> x.write(of), NULL);
        }
        Edges.refused(due, BeatWords::new, "write(0) without SYLLABLES", x -> x.write(0), NULL);
    }

    static void p26_withoutSyllablesItIsNone() {
        for (int form = 0; form <= 2; form++) {
            for (String text : new String[] {"", "ba ", "ba."}) {
                BeatWords x = Runs.typed(text);
                fill(x, 1, form, 2, 6);
                due.is("write(1) of <" + text + ">", x.write(1), 0);
                due.is("items", Runs.items(x, 1, 2), "6 7");
                due.is("count(8)", x.count(8), 0);
            }
        }
    }

    static void p26_ofNoItemsItIsNone() {
        for (int form = 0; form <= 2; form++) {
            BeatWords x = Runs.typed("bababa");
            x.sheet(1, form, 0);
            due.is("write(1)", x.write(1), 0);
            due.is("lose(1)", x.lose(1), 0);
        }
    }

    static void p26_oneItemLessAsManyAndOneMore() {
        String[] want = {"2 0", "2 0 1", "2 0 1 9"};
        for (int form = 0; form <= 1; form++) {
            for (int n = 2; n <= 4; n++) {
                BeatWords x = Runs.typed("bababa");
                x.way(Runs.REST, 1);
                x.sheet(2, form, n);
                x.put(2, form, n - 1, 9);
                due.is("write(2) of " + n + " items", x.write(2), n == 2 ? 2 : 3);
                due.is("items", Runs.items(x, 2, n), want[n - 2]);
                due.is("lose(2)", x.lose(2), n);
            }
        }
    }

    static void p26_ofSixtySyllables() {
        for (int form = 0; form <= 2; form++) {
            BeatWords x = Runs.typed(Edges.sixtySyllables());
            x.sheet(0, form, 60);
            due.is("write(0)", x.write(0), 60);
            int eighths = form == 2 ? 8 : 1;
            due.is("get(0, 0)", x.get(0, 0), 2 * eighths);
            due.is("get(0, 57)", x.get(0, 57), 0);
            due.is("get(0, 58)", x.get(0, 58), eighths);
            due.is("get(0, 59)", x.get(0, 59), 0);
        }
    }

    static void p26_beatsOfNoneAreWrittenToo() {
        for (int form = 0; form <= 2; form++) {
            BeatWords x = Runs.typed("baba");
            fill(x, 0, form, 2, 40);
            due.is("write(0)", x.write(0), 2);
            due.is("get(0, 1)", x.get(0, 1), 0);
        }
    }

    static void p26_ofFloatsByMoras() {
        BeatWords x = Runs.typed("ba baa baan baant");
        x.way(Runs.CODA, 2);
        x.sheet(0, 2, 5);
        due.is("MORAS", Runs.row(x, 3), "1234");
        due.is("write(0)", x.write(0), 4);
        due.is("items", Runs.items(x, 0, 5), "16 8 5 4 0");
    }

    static void p26_itIsAsHeardNotByFeet() {
        BeatWords x = Runs.typed("baabaa");
        x.way(Runs.SORT, 1);
        x.way(Runs.WINDOW, 1);
        fill(x, 0, 1, 2, 5);
        due.is("write(0)", x.write(0), 2);
        due.is("items", Runs.items(x, 0, 2), "2 0");
    }

    static void p26_itChangesNothingElse() {
        BeatWords x = Edges.rich();
        long before = x.digest();
        due.is("write(1)", x.write(1), 2);
        due.is("digest()", x.digest(), before);
        due.is("count(8)", x.count(8), 5);
        due.is("items of another", Runs.items(x, 0, 3), "97 0 110");
    }

    // ---- promise 27: count

    static void p27_whatIsNotToldIsBad() {
        Edges.bad(due, Edges::rich, "count", 0, 8, (x, what) -> x.count(what));
        Edges.bad(due, BeatWords::new, "count", 0, 8, (x, what) -> x.count(what));
    }

    static void p27_ofNothingAllAreNone() {
        due.is("counts", Runs.counts(new BeatWords()), "0 0 0 0 0 0 0 0 0");
    }

    static void p27_withAFlawThereAreBytesAndTextsAlone() {
        BeatWords x = Runs.typed("baba");
        x.mark(0, 1);
        x.type('.');
        due.is("counts", Runs.counts(x), "5 0 0 0 0 1 0 0 0");
    }

    static void p27_ofOneByte() {
        due.is("counts", Runs.counts(Runs.typed("a")), "1 1 1 1 0 0 1 1 0");
    }

    static void p27_ofSixtyBytes() {
        due.is("counts of sixty SYLLABLES", Runs.counts(Runs.typed(Edges.sixtySyllables())),
            "60 1 60 30 0 0 30 60 0");
        due.is("counts of thirty WORDS", Runs.counts(Runs.typed(Edges.thirtyWords())), "60 30 30 30 1 0 30 31 0");
        BeatWords x = Runs.typed(Edges.times("a", 60));
        x.way(Runs.SORT, 1);
        due.is("counts of thirty HEAVY ones", Runs.counts(x), "60 1 30 30 30 0 30 60 0");
    }

    static void p27_heavyIsTwoMoras() {
        BeatWords x = Runs.typed("ba ban bant baa baan");
        due.is("count(4) by CODA 0", x.count(4), 2);
        due.is("count(7) by CODA 0", x.count(7), 7);
        x.way(Runs.CODA, 1);
        due.is("count(4) by CODA 1", x.count(4), 4);
        due.is("count(7) by CODA 1", x.count(7), 10);
        x.way(Runs.CODA, 2);
        due.is("count(4) by CODA 2", x.count(4), 4);
        due.is("count(7) by CODA 2", x.count(7), 11);
        x.way(Runs.EDGE, 1);
        due.is("count(4) by EDGE 1", x.count(4), 3);
        due.is("count(7) by EDGE 1", x.count(7), 8);
    }

    static void p27_beatsThatAreHeard() {
        BeatWords x = Runs.typed("baabaa");
        x.way(Runs.SORT, 1);
        due.is("count(6)", x.count(6), 2);
        x.way(Runs.WINDOW, 1);
        due.is("count(6) of 20", x.count(6), 1);
        due.is("count(3) of 20", x.count(3), 2);
    }

    static void p27_theLatestFindingIsTheOneTold() {
        int[] order = {1, 2, 3, 4, 5, 4, 3, 2, 1, 5, 1};
        BeatWords x = Edges.rich(0);
        due.is("count(8) before any", x.count(8), 0);
        for (int finding : order) {
            make(x, finding);
            due.is("count(8) behind FINDING " + finding, x.count(8), finding);
        }
    }

    private static void make(BeatWords x, int finding) {
        switch (finding) {
            case 1: due.is("lose(3)", x.lose(3), -11); break;
            case 2: due.is("put(0, 0, -1, 0)", x.put(0, 0, -1, 0), -12); break;
            case 3: due.is("put(0, 1, 0, 0)", x.put(0, 1, 0, 0), -13); break;
            case 4: due.is("copy(0, 0, 1, 0, 1)", x.copy(0, 0, 1, 0, 1), -14); break;
            default: due.is("sheet(3, 0, -1)", x.sheet(3, 0, -1), -15); break;
        }
    }

    static void p27_whatIsTakenLeavesTheLatestFinding() {
        for (int finding = 1; finding <= 5; finding++) {
            BeatWords x = Edges.rich(finding);
            x.type('s');
            x.way(4, 0);
            x.mark(1, 0);
            x.unmark(1);
            x.tell(0, 1);
            x.copyHeard();
            x.learn();
            x.put(0, 0, 0, 'a');
            x.get(1, 0);
            x.copy(0, 0, 0, 1, 1);
            x.write(1);
            x.sheet(3, 1, 1);
            x.lose(3);
            x.read(0);
            x.wipe();
            due.is("count(8) behind FINDING " + finding, x.count(8), finding);
        }
    }

    static void p27_badNotAndFullLeaveTheLatestFinding() {
        for (int finding = 0; finding <= 5; finding++) {
            BeatWords x = Edges.rich(finding);
            due.is("type(256)", x.type(256), -2);
            due.is("unmark(1)", x.unmark(1), -3);
            due.is("sheet(0, 0, 61)", x.sheet(0, 0, 61), -2);
            due.is("get(4, 0)", x.get(4, 0), LEAST);
            due.is("share(3)", x.share(3), 0);
            Runs.type(x, " " + Edges.times("a", 60));
            due.is("type('a')", x.type('a'), -4);
            due.is("count(8)", x.count(8), finding);
        }
    }

    // ---- promise 28: digest

    private static void digest(String told, Edges.Maker maker) {
        due.is("digest() of " + told, maker.make().digest(), Runs.digestByCalls(maker));
    }

    static void p28_ofNothing() {
        long h = 17;
        for (int i = 0; i < 23; i++) {
            h *= 31;
        }
        due.is("digest()", new BeatWords().digest(), h);
        digest("nothing", BeatWords::new);
    }

    static void p28_ofAFlaw() {
        for (String text : new String[] {" ", "ba ", "ba.", "b", "ba  ba"}) {
            digest("<" + text + ">", () -> Runs.typed(text));
        }
    }

    static void p28_ofOneByte() {
        digest("<a>", () -> Runs.typed("a"));
    }

    static void p28_ofAllThatIsNotAsAtFirst() {
        digest("a rich object", Edges::rich);
        digest("six marked texts", () -> {
            BeatWords x = Runs.typed("a e i o u aa ee");
            for (int k = 0; k < 6; k++) {
                x.mark(k, 0);
            }
            x.way(Runs.WINDOW, 3);
            return x;
        });
    }

    static void p28_ofSixtySyllables() {
        for (int window = 0; window <= 3; window++) {
            int by = window;
            digest("sixty SYLLABLES", () -> {
                BeatWords x = Runs.typed(Edges.sixtySyllables());
                x.way(Runs.WINDOW, by);
                x.tell(59, 2);
                return x;
            });
        }
    }

    static void p28_ofThirtyWords() {
        digest("thirty WORDS", () -> {
            BeatWords x = Runs.typed(Edges.thirtyWords());
            x.way(Runs.WINDOW, 1);
            x.mark(29, 0);
            return x;
        });
    }

    static void p28_itWrapsAsALong() {
        // what is told of <ba>, summed without a bound and cut to 64 bits at the end
        long[] all = {2, 1, 1, 1, 0, 0, 1, 1, -1, 0, 1, 1, 0, 0, 0, -1, 0, 0, 2, 1, 0, 2, 2, 0, 0, 0, 0, 0, 0,
            0, 0, 0, 0, 0, 0, 0, 0x3f800000, 3, '\'', 'b', 'a'};
        BigInteger h = BigInteger.valueOf(17);
        for (long one : all) {
            h = h.multiply(BigInteger.valueOf(31)).add(BigInteger.valueOf(one));
        }
        due.is("digest()", Runs.typed("ba").digest(), h.longValue());
    }

    static void p28_sheetsAndFindingsAreNotInIt() {
        BeatWords x = Edges.rich();
        long before = x.digest();
        x.lose(0);
        x.lose(0);
        x.put(1, 1, 0, 9);
        x.sheet(3, 2, 60);
        due.is("digest()", x.digest(), before);
        due.is("digest() again", x.digest(), before);
    }
}
