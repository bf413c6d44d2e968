/** Boundary cases of trays, a test for each sentence. */
public final class EdgesOfTraysTest {
    private static final Checks checks = new Checks();
    private static final int LEAST = Integer.MIN_VALUE;
    private static final int MOST = Integer.MAX_VALUE;

    public static void main(String[] args) {
        traysThatThereAre();
        nothingAtFirst();
        thirtyItems();
        sorts();
        trayAnswers();
        trayRefuses();
        putAnswers();
        putRefuses();
        getAnswers();
        getRefuses();
        fillAnswers();
        fillInts();
        fillRefuses();
        judgeAnswers();
        judgeInts();
        judgeRefuses();
        copyAnswers();
        copyAsTheyWere();
        copyRefuses();
        copyOrder();
        checks.end();
    }

    /** Its SHIFT by 20 is GREAT, PLAIN is not. */
    private static SignTables great() {
        SignTables x = Checks.with(98, 97, 93, -95, 89, -99, 99);
        x.tray(0, 0, 3);
        x.put(0, 0, 8);
        return x;
    }

    /** The first ITEM of row 4 is no int: -2731206047, 638331205. */
    private static SignTables cutFirst() {
        return Checks.with(47, 68, -71, 53, 33, 53, 33);
    }

    /** The second is none: 2075129879, -3610482579. */
    private static SignTables cutSecond() {
        return Checks.with(-61, 28, -55, 99, 70, -99, -70);
    }

    private static SignTables with(int tray, int sort, long... items) {
        SignTables x = new SignTables();
        lay(x, tray, sort, items);
        return x;
    }

    private static void lay(SignTables x, int tray, int sort, long... items) {
        x.tray(tray, sort, items.length);
        for (int i = 0; i < items.length; i++) {
            x.put(tray, i, items[i]);
        }
    }

    private static void isTray(SignTables x, int tray, long... items) {
        for (int i = 0; i < 31; i++) {
            checks.due("get(" + tray + ", " + i + ")", x.get(tray, i), i < items.length ? items[i] : Checks.NO);
        }
    }

    // Terms 5: "TRAYS 0 .. 3"
    private static void traysThatThereAre() {
        SignTables x = new SignTables();
        for (int tray = -1; tray <= 4; tray++) {
            int due = tray < 0 || tray > 3 ? -1 : 1;
            checks.due("tray(" + tray + ", 0, 1)", x.tray(tray, 0, 1), due);
            checks.due("put(" + tray + ", 0, 5)", x.put(tray, 0, 5 + tray), due);
        }
        for (int tray = 0; tray <= 3; tray++) {
            isTray(x, tray, 5 + tray);
        }
    }

    // Terms 5: "nothing (at first)"
    private static void nothingAtFirst() {
        SignTables x = new SignTables();
        for (int tray = 0; tray <= 3; tray++) {
            checks.due("put", x.put(tray, 0, 1), -11);
            checks.due("get", x.get(tray, 0), Checks.NO);
            checks.due("fill", x.fill(tray, 0, 0), -11);
            checks.due("judge", x.judge(tray, 0, 0), -11);
            checks.due("copy", x.copy(tray, 0, tray, 0, 0), -11);
        }
    }

    // Terms 5: "n (0 .. 30) items"
    private static void thirtyItems() {
        SignTables x = new SignTables();
        checks.due("30", x.tray(0, 0, 30), 1);
        checks.due("the last", x.put(0, 29, 7), 1);
        checks.due("the last", x.get(0, 29), 7);
        checks.due("behind it", x.put(0, 30, 7), -13);
        checks.due("31", x.tray(0, 0, 31), -2);
        checks.due("the last stays", x.get(0, 29), 7);
        checks.due("-1", x.tray(0, 0, -1), -14);
        checks.due("the last stays", x.get(0, 29), 7);
        checks.due("0", x.tray(0, 0, 0), 1);
        isTray(x, 0);
        checks.due("0 items are not nothing", x.put(0, 0, 7), -13);
    }

    // Terms 5: "of a sort: 0 longs, 1 ints."
    private static void sorts() {
        SignTables x = with(0, 0, Long.MIN_VALUE, Long.MAX_VALUE, 1L << 32);
        isTray(x, 0, Long.MIN_VALUE, Long.MAX_VALUE, 1L << 32);
        x = with(0, 1, LEAST, MOST, 1L << 32);
        isTray(x, 0, LEAST, MOST, 0);
        checks.due("sort -2", x.tray(0, -2, 1), -2);
        checks.due("sort 2", x.tray(0, 2, 1), -2);
    }

    // Promise 37: "A TRAY becomes n items of a sort, all 0, or nothing (sort -1: n does not matter): 1."
    private static void trayAnswers() {
        SignTables x = with(2, 0, 4, 5, 6);
        checks.due("again", x.tray(2, 0, 3), 1);
        isTray(x, 2, 0, 0, 0);
        x.put(2, 2, 9);
        checks.due("less, of the other sort", x.tray(2, 1, 2), 1);
        isTray(x, 2, 0, 0);
        checks.due("more", x.tray(2, 1, 4), 1);
        isTray(x, 2, 0, 0, 0, 0);
        for (int n : new int[] {0, 30, 31, -1, LEAST, MOST}) {
            x.tray(2, 0, 1);
            checks.due("tray(2, -1, " + n + ")", x.tray(2, -1, n), 1);
            checks.due("it is nothing", x.put(2, 0, 1), -11);
        }
        checks.due("nothing again", x.tray(2, -1, 0), 1);
    }

    // Promise 37: "NONE: tray; BAD: sort, n above 30; SIZE."
    private static void trayRefuses() {
        SignTables x = with(0, 0, 4, 5);
        int[][] due = {{-1, 0, 0, -1}, {4, 0, 0, -1}, {LEAST, 0, 0, -1}, {MOST, 0, 0, -1}, {4, 2, 0, -1},
            {4, 0, 31, -1}, {4, 0, -1, -1}, {4, -1, 0, -1}, {0, -2, 0, -2}, {0, 2, 0, -2}, {0, LEAST, 0, -2},
            {0, MOST, 0, -2}, {0, 0, 31, -2}, {0, 1, 31, -2}, {0, 0, MOST, -2}, {0, 2, -1, -2}, {0, -2, -1, -2},
            {0, 2, 31, -2}, {0, 0, -1, -14}, {0, 1, -1, -14}, {0, 0, LEAST, -14}};
        for (int[] d : due) {
            checks.due("tray(" + d[0] + ", " + d[1] + ", " + d[2] + ")", x.tray(d[0], d[1], d[2]), d[3]);
        }
        isTray(x, 0, 4, 5);
    }

    // Promise 38: "Item i becomes v (of ints its lowest 32 bits, with their sign): 1."
    private static void putAnswers() {
        SignTables x = with(3, 1, 0, 0, 0, 0, 0, 0);
        long[] put = {1L << 31, -(1L << 31) - 1, (1L << 32) - 1, Long.MAX_VALUE, Long.MIN_VALUE, (1L << 40) + 3};
        for (int i = 0; i < 6; i++) {
            checks.due("put(3, " + i + ")", x.put(3, i, put[i]), 1);
        }
        isTray(x, 3, LEAST, MOST, -1, -1, 0, 3);
        x = with(3, 0, 0, 0, 0, 0, 0, 0);
        for (int i = 0; i < 6; i++) {
            checks.due("put(3, " + i + ")", x.put(3, i, put[i]), 1);
        }
        isTray(x, 3, put);
    }

    // Promise 38: "NONE; NOTHING; PLACE."
    private static void putRefuses() {
        SignTables x = with(0, 0, 4, 5);
        int[][] due = {{-1, 0, -1}, {4, 0, -1}, {LEAST, -1, -1}, {MOST, 99, -1}, {1, 0, -11}, {1, -1, -11},
            {1, 30, -11}, {0, -1, -13}, {0, 2, -13}, {0, LEAST, -13}, {0, MOST, -13}};
        for (int[] d : due) {
            checks.due("put(" + d[0] + ", " + d[1] + ", 9)", x.put(d[0], d[1], 9), d[2]);
        }
        isTray(x, 0, 4, 5);
        x.tray(0, 0, 0);
        checks.due("of 0 items", x.put(0, 0, 9), -13);
    }

    // Promise 39: "Item i."
    private static void getAnswers() {
        SignTables x = new SignTables();
        x.tray(1, 0, 30);
        x.put(1, 0, -8);
        x.put(1, 29, 9);
        checks.due("the first", x.get(1, 0), -8);
        checks.due("the last", x.get(1, 29), 9);
        checks.due("another", x.get(1, 15), 0);
    }

    // Promise 39: "NO: no such TRAY, it is nothing, no such place."
    private static void getRefuses() {
        SignTables x = with(0, 0, 4, 5);
        int[][] wrong = {{-1, 0}, {4, 0}, {LEAST, 0}, {MOST, 0}, {1, 0}, {3, 0}, {0, -1}, {0, 2}, {0, LEAST},
            {0, MOST}};
        for (int[] w : wrong) {
            checks.due("get(" + w[0] + ", " + w[1] + ")", x.get(w[0], w[1]), Checks.NO);
        }
        x.tray(0, -1, 0);
        checks.due("it is nothing again", x.get(0, 0), Checks.NO);
        x.tray(0, 1, 0);
        checks.due("of 0 items", x.get(0, 0), Checks.NO);
    }

    // Promise 40: "ITEMS of a ROW of SIGN ROWS, from the first on, become items of a TRAY, as many as there are of
    // both (the other items stay): how many."
    private static void fillAnswers() {
        SignTables x = Checks.with(1, 2, 3, 4, 5, 6, 7);
        lay(x, 0, 0, 91, 92, 93, 94, 95);
        checks.due("a longer tray", x.fill(0, 0, 0), 4);
        isTray(x, 0, 7, 5, 3, 1, 95);
        checks.due("the last row", x.fill(0, 0, 6), 1);
        isTray(x, 0, 1, 5, 3, 1, 95);
        lay(x, 0, 0, 91, 92);
        checks.due("a shorter tray", x.fill(0, 0, 0), 2);
        isTray(x, 0, 7, 5);
        lay(x, 0, 0, 91, 92, 93, 94);
        checks.due("one as long", x.fill(0, 0, 0), 4);
        isTray(x, 0, 7, 5, 3, 1);
        x.tray(0, 0, 0);
        checks.due("one of 0 items", x.fill(0, 0, 0), 0);
        isTray(x, 0);
        lay(x, 0, 0, 91);
        checks.due("another form", x.fill(0, 2, 0), 1);
        isTray(x, 0, 1);
    }

    // Promise 40: "become items of a TRAY" (of ints: what an int keeps of them)
    private static void fillInts() {
        SignTables x = cutFirst();
        lay(x, 0, 1, 5, 5, 5);
        checks.due("they fit", x.fill(0, 0, 0), 3);
        isTray(x, 0, 33, 33, -71);
        checks.due("the first doesn't", x.fill(0, 0, 4), 2);
        isTray(x, 0, 1563761249, 638331205, -71);
        x = cutSecond();
        x.tray(0, 1, 1);
        checks.due("what doesn't fit is beyond the tray", x.fill(0, 0, 4), 1);
        isTray(x, 0, 2075129879);
        lay(x, 0, 1, 5, 5);
        checks.due("the second doesn't", x.fill(0, 0, 4), 2);
        isTray(x, 0, 2075129879, 684484717);
        x.tray(0, 0, 2);
        checks.due("longs fit", x.fill(0, 0, 4), 2);
        isTray(x, 0, 2075129879L, -3610482579L);
    }

    // Promise 40: "NONE: tray; BAD: form; NOTHING; NONE: no such ROW; GREAT."
    private static void fillRefuses() {
        int[][] due = {{-1, 0, 0, -1}, {4, 0, 0, -1}, {LEAST, 0, 0, -1}, {MOST, 0, 0, -1}, {4, 51, 7, -1},
            {0, -1, 0, -2}, {0, 4, 0, -2}, {0, 9, 0, -2}, {0, 51, 0, -2}, {0, MOST, 0, -2}, {1, 51, 7, -2},
            {0, 51, 7, -2}, {1, 0, 0, -11}, {1, 0, 7, -11}, {1, 50, 0, -11}, {0, 0, -1, -1}, {0, 0, 7, -1},
            {0, 0, LEAST, -1}, {0, 0, MOST, -1}, {0, 50, 7, -1}, {0, 50, -1, -1}, {0, 50, 0, -7}, {0, 50, 6, -7}};
        SignTables x = great();
        for (int[] d : due) {
            checks.due("fill(" + d[0] + ", " + d[1] + ", " + d[2] + ")", x.fill(d[0], d[1], d[2]), d[3]);
        }
        isTray(x, 0, 8, 0, 0);
        x = Checks.with();
        x.tray(0, 0, 1);
        checks.due("without DEGREE", x.fill(0, 0, 0), -1);
    }

    // Promise 41: "The first item of a TRAY that isn't the ITEM of ROW k with its number (or ROW k has none of that
    // number); NONE: all are so"
    private static void judgeAnswers() {
        SignTables x = Checks.with(1, 2, 3, 4, 5, 6, 7);
        lay(x, 0, 0, 7, 5, 3, 1);
        checks.due("all are so", x.judge(0, 0, 0), -1);
        x.put(0, 3, 2);
        checks.due("the last", x.judge(0, 0, 0), 3);
        x.put(0, 2, 2);
        checks.due("two, the first", x.judge(0, 0, 0), 2);
        x.put(0, 0, 2);
        checks.due("the first", x.judge(0, 0, 0), 0);
        lay(x, 0, 0, 7, 5);
        checks.due("a shorter tray", x.judge(0, 0, 0), -1);
        lay(x, 0, 0, 7, 5, 3, 1, 0);
        checks.due("a longer tray, with 0", x.judge(0, 0, 0), 4);
        lay(x, 0, 0, 7, 5, 4, 1, 0);
        checks.due("an earlier one", x.judge(0, 0, 0), 2);
        x.tray(0, 0, 30);
        x.put(0, 0, 1);
        checks.due("the last row", x.judge(0, 0, 6), 1);
        x.tray(0, 0, 0);
        checks.due("of 0 items", x.judge(0, 0, 0), -1);
        isTray(x, 0);
    }

    // Promise 41: "isn't the ITEM" (an int is not the item that it was cut from)
    private static void judgeInts() {
        SignTables x = cutFirst();
        x.tray(0, 1, 2);
        x.fill(0, 0, 4);
        checks.due("the first is cut", x.judge(0, 0, 4), 0);
        x.tray(0, 0, 2);
        x.fill(0, 0, 4);
        checks.due("longs are not", x.judge(0, 0, 4), -1);
        x = cutSecond();
        x.tray(0, 1, 2);
        x.fill(0, 0, 4);
        checks.due("the second is cut", x.judge(0, 0, 4), 1);
        x.tray(0, 1, 1);
        x.fill(0, 0, 4);
        checks.due("it is beyond the tray", x.judge(0, 0, 4), -1);
        x.fill(0, 0, 0);
        checks.due("ints that fit", x.judge(0, 0, 0), -1);
    }

    // Promise 41: "or tray; BAD: form; NOTHING; NONE: no such ROW; GREAT."
    private static void judgeRefuses() {
        int[][] due = {{-1, 0, 0, -1}, {4, 0, 0, -1}, {LEAST, 0, 0, -1}, {MOST, 0, 0, -1}, {4, 51, 7, -1},
            {0, -1, 0, -2}, {0, 4, 0, -2}, {0, 9, 0, -2}, {0, 51, 0, -2}, {0, MOST, 0, -2}, {1, 51, 7, -2},
            {0, 51, 7, -2}, {1, 0, 0, -11}, {1, 0, 7, -11}, {1, 50, 0, -11}, {0, 0, -1, -1}, {0, 0, 7, -1},
            {0, 0, LEAST, -1}, {0, 0, MOST, -1}, {0, 50, 7, -1}, {0, 50, -1, -1}, {0, 50, 0, -7}, {0, 50, 6, -7},
            {0, 0, 0, 0}};
        SignTables x = great();
        for (int[] d : due) {
            checks.due("judge(" + d[0] + ", " + d[1] + ", " + d[2] + ")", x.judge(d[0], d[1], d[2]), d[3]);
        }
        isTray(x, 0, 8, 0, 0);
        x = Checks.with();
        x.tray(0, 0, 1);
        checks.due("without DEGREE", x.judge(0, 0, 0), -1);
    }

    // Promise 42: "n items of a TRAY from i on come to another one (or the same) from j on"
    private static void copyAnswers() {
        SignTables x = with(0, 0, 1, 2, 3);
        lay(x, 1, 0, 91, 92, 93, 94);
        checks.due("all", x.copy(0, 0, 1, 1, 3), 3);
        isTray(x, 1, 91, 1, 2, 3);
        isTray(x, 0, 1, 2, 3);
        checks.due("none at the end", x.copy(0, 3, 1, 4, 0), 0);
        checks.due("none at the beginning", x.copy(0, 0, 1, 0, 0), 0);
        isTray(x, 1, 91, 1, 2, 3);
        checks.due("the last", x.copy(0, 2, 1, 0, 1), 1);
        isTray(x, 1, 3, 1, 2, 3);
        lay(x, 2, 1, 5, 6);
        lay(x, 3, 1, 7);
        checks.due("ints", x.copy(2, 1, 3, 0, 1), 1);
        isTray(x, 3, 6);
        x.tray(3, 1, 0);
        checks.due("of 0 items", x.copy(3, 0, 2, 2, 0), 0);
        isTray(x, 2, 5, 6);
    }

    // Promise 42: "as they all were before: n."
    private static void copyAsTheyWere() {
        SignTables x = with(0, 0, 1, 2, 3, 4, 5);
        checks.due("up", x.copy(0, 0, 0, 2, 3), 3);
        isTray(x, 0, 1, 2, 1, 2, 3);
        x = with(0, 0, 1, 2, 3, 4, 5);
        checks.due("down", x.copy(0, 2, 0, 0, 3), 3);
        isTray(x, 0, 3, 4, 5, 4, 5);
        x = with(0, 1, 1, 2, 3, 4, 5);
        checks.due("to where they are", x.copy(0, 0, 0, 0, 5), 5);
        isTray(x, 0, 1, 2, 3, 4, 5);
        checks.due("by one", x.copy(0, 0, 0, 1, 4), 4);
        isTray(x, 0, 1, 1, 2, 3, 4);
    }

    // Promise 42: "PLACE: n, i or j is below 0, or beyond either's end."
    private static void copyRefuses() {
        SignTables x = with(0, 0, 1, 2, 3);
        lay(x, 1, 0, 91, 92);
        int[][] wrong = {{0, 0, -1}, {0, 0, LEAST}, {-1, 0, 1}, {-1, 0, 0}, {LEAST, 0, 1}, {0, -1, 1}, {0, -1, 0},
            {0, LEAST, 1}, {3, 0, 1}, {2, 0, 2}, {4, 0, 0}, {MOST, 0, 0}, {MOST, 0, 1}, {1, 0, MOST}, {0, 2, 1},
            {0, 1, 2}, {0, 0, 3}, {0, 3, 0}, {0, MOST, 0}, {0, MOST, MOST}, {MOST, MOST, MOST}, {0, 0, MOST}};
        for (int[] w : wrong) {
            checks.due("copy(0, " + w[0] + ", 1, " + w[1] + ", " + w[2] + ")",
                x.copy(0, w[0], 1, w[1], w[2]), -13);
        }
        checks.due("in one tray", x.copy(0, 0, 0, 1, 3), -13);
        checks.due("in one tray", x.copy(0, 1, 0, 0, 3), -13);
        isTray(x, 0, 1, 2, 3);
        isTray(x, 1, 91, 92);
    }

    // Promise 42: "NONE: trays; NOTHING; CAST: of unlike sorts; PLACE"
    private static void copyOrder() {
        SignTables x = with(0, 0, 1, 2, 3);
        lay(x, 1, 1, 91, 92);
        int[][] due = {{-1, 0, 0, 0, 1, -1}, {4, 0, 0, 0, 1, -1}, {0, 0, -1, 0, 1, -1}, {0, 0, 4, 0, 1, -1},
            {2, 0, 4, 0, 1, -1}, {4, -1, 2, -1, -1, -1}, {LEAST, 0, MOST, 0, 1, -1}, {2, 0, 0, 0, 1, -11},
            {0, 0, 2, 0, 1, -11}, {2, 0, 3, 0, 0, -11}, {1, 9, 2, 9, 9, -11}, {2, -1, 1, -1, -1, -11},
            {0, 0, 1, 0, 1, -12}, {1, 0, 0, 0, 1, -12}, {0, 0, 1, 0, 0, -12}, {0, -1, 1, 9, -1, -12},
            {1, 0, 0, 0, 9, -12}};
        for (int[] d : due) {
            String call = "copy(" + d[0] + ", " + d[1] + ", " + d[2] + ", " + d[3] + ", " + d[4] + ")";
            checks.due(call, x.copy(d[0], d[1], d[2], d[3], d[4]), d[5]);
        }
        isTray(x, 0, 1, 2, 3);
        isTray(x, 1, 91, 92);
    }
}
