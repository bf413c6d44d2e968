/** Boundary cases of sign rows and of the roots that they count, a test for each sentence. */
public final class EdgesOfRowsTest {
    private static final Checks checks = new Checks();
    private static final int LEAST = Integer.MIN_VALUE;
    private static final int MOST = Integer.MAX_VALUE;

    public static void main(String[] args) {
        rowsThatThereAre();
        itemsThatThereAre();
        firstTwoRows();
        itemsBeyondAnEnd();
        turnedAbout();
        caseTwo();
        caseOne();
        caseNought();
        dividedByTheGreatest();
        greatProduct();
        greatDifference();
        greatSum();
        leastLong();
        greatOfThatForm();
        changesBetween();
        right();
        axisWithoutCaseTwo();
        axisFromTheFirst();
        left();
        withoutDegree();
        on();
        rowAnswers();
        rowRefuses();
        caseOfRowNought();
        caseOfRefuses();
        rootsAnswers();
        rootsRefuses();
        changesAnswers();
        changesRefuses();
        checks.end();
    }

    /** Its SHIFT by 20 is GREAT, PLAIN is not. */
    private static SignTables great() {
        return Checks.with(98, 97, 93, -95, 89, -99, 99);
    }

    private static void isRow(SignTables x, int form, int k, int ofCase, long... items) {
        checks.due("caseOf(" + form + ", " + k + ")", x.caseOf(form, k), ofCase);
        for (int j = 0; j < items.length; j++) {
            checks.due("row(" + form + ", " + k + ", " + j + ")", x.row(form, k, j), items[j]);
        }
        checks.due("row(" + form + ", " + k + ") has no more", x.row(form, k, items.length), Checks.NO);
    }

    private static void areRoots(SignTables x, int form, int right, int axis, int left, int first, int on) {
        int[] due = {right, axis, left, first, on};
        for (int what = 0; what < 5; what++) {
            checks.due("roots(" + form + ", " + what + ")", x.roots(form, what), due[what]);
        }
    }

    // Terms 2: "ROWS 0 .. m (none, if it has no DEGREE)"
    private static void rowsThatThereAre() {
        for (int m = -1; m <= 6; m++) {
            SignTables x = Checks.with();
            if (m >= 0) {
                x.set(0, m, -2);
            }
            checks.due("caseOf of -1", x.caseOf(0, -1), -1);
            for (int k = 0; k <= 7; k++) {
                checks.holds("row " + k + " of " + m, x.row(0, k, 0) != Checks.NO == k <= m);
                checks.holds("case of row " + k + " of " + m, x.caseOf(0, k) >= 0 == k <= m);
            }
        }
    }

    // Terms 2: "ROW k has ITEMS 0 .. (m - k) over 2, cut."
    private static void itemsThatThereAre() {
        for (int m = 0; m <= 6; m++) {
            SignTables x = Checks.with();
            x.set(0, m, 3);
            for (int k = 0; k <= m; k++) {
                int last = (m - k) / 2;
                checks.due("item -1", x.row(0, k, -1), Checks.NO);
                checks.holds("item 0", x.row(0, k, 0) != Checks.NO);
                checks.holds("the last item", x.row(0, k, last) != Checks.NO);
                checks.due("behind the last item", x.row(0, k, last + 1), Checks.NO);
            }
        }
    }

    // Terms 2: "ROW 0: COEFFICIENTS of POWERS m, m - 2, ..; ROW 1: of m - 1, m - 3, .."
    private static void firstTwoRows() {
        isRow(Checks.with(7), 0, 0, 0, 1);
        SignTables x = Checks.with(7, 3);
        isRow(x, 0, 0, 0, 1);
        isRow(x, 0, 1, 0, 1);
        x = Checks.with(1, 2, 3, 4, 5, 6, 7);
        isRow(x, 0, 0, 0, 7, 5, 3, 1);
        isRow(x, 0, 1, 0, 3, 2, 1);
        // m is the DEGREE of the FORM: TURNED, of POWERS 0 .. 3, has 2 and 4, then 3 and 1.
        x = Checks.with(0, 2, 3, 4, 1);
        isRow(x, 2, 0, 0, 1, 2);
        isRow(x, 2, 1, 0, 3, 1);
    }

    // Terms 2: "(ITEMS beyond an end are 0): ITEM j is ITEM 0 of B times ITEM j + 1 of A, less ITEM 0 of A times ITEM
    // j + 1 of B"
    private static void itemsBeyondAnEnd() {
        SignTables x = Checks.with(5, 3, 1);
        isRow(x, 0, 2, 0, 1);
        x = Checks.with(7, 3, 5, 2, 1);
        // 2 times 5 less 1 times 3, and 2 times 7 less 1 times what is beyond.
        isRow(x, 0, 2, 0, 1, 2);
        x = Checks.with(-7, 3, 5, 2, 1);
        isRow(x, 0, 2, 0, 1, -2);
        isRow(x, 0, 4, 0, -1);
    }

    // Terms 2: "turned about, if ITEM 0 of B is below 0."
    private static void turnedAbout() {
        SignTables x = Checks.with(3, 5, -2, 1);
        // -2 times 5 less 1 times 3, turned about.
        isRow(x, 0, 2, 0, 1);
        x = Checks.with(7, 3, 5, -2, 1);
        isRow(x, 0, 2, 0, 13, 14);
        x = Checks.with(7, 3, 5, 2, -1);
        isRow(x, 0, 2, 0, 13, 14);
    }

    // Terms 2: "2, if all its ITEMS are 0: ITEM j becomes ITEM j of the ROW ahead times (m - k + 1 - 2 j)."
    private static void caseTwo() {
        // Row 1 of all DEGREES, at once or as the last one.
        isRow(Checks.with(0, 4), 0, 1, 2, 1);
        SignTables x = Checks.with(5, 0, -3);
        isRow(x, 0, 1, 2, -1);
        isRow(x, 0, 2, 0, 1);
        x = Checks.with(11, 0, 7, 0, 3, 0, 1);
        isRow(x, 0, 1, 2, 3, 6, 7);
        x = Checks.with(11, 0, 7, 0, 5);
        isRow(x, 0, 1, 2, 10, 7);
        // The last row: a root at 0.
        x = Checks.with(0, 3, 5, 2);
        isRow(x, 0, 3, 2, 1);
        // In the middle: (s s and 3) (s and 1) (s and 2).
        x = Checks.with(6, 9, 5, 3, 1);
        isRow(x, 0, 2, 0, 1, 3);
        isRow(x, 0, 3, 2, 1);
        isRow(x, 0, 4, 0, 1);
    }

    // Terms 2: "1, if ITEM 0 is 0, but not all are: z being the first that is not, each ITEM j gets ITEM j + z
    // more (as they all were; turned about first, if z is odd)."
    private static void caseOne() {
        // z is 1: 0, 3, 5 becomes -3, 3 less 5, 5.
        SignTables x = Checks.with(5, 0, 3, 0, 0, 1);
        isRow(x, 0, 1, 1, -3, -2, 5);
        // z is 1, and two ITEMS alone: 0, -4 becomes 4, -4.
        x = Checks.with(9, -4, 0, 0, 3);
        isRow(x, 0, 1, 1, 1, -1);
        // z is 2, the most that there is: 0, 0, 5 becomes 5, 0, 5.
        x = Checks.with(5, 0, 0, 0, 0, 1);
        isRow(x, 0, 1, 1, 1, 0, 1);
        x = Checks.with(1, -5, 0, 0, 0, 0, 1);
        isRow(x, 0, 1, 1, -1, 0, -1);
        // z is 1, and the last is 0: 0, 3, 0 becomes -3, 3, 0.
        x = Checks.with(0, 2, 3, 0, 0, 1);
        isRow(x, 0, 1, 1, -1, 1, 0);
        // In a row that comes of two others.
        x = Checks.with(3, 2, 2, 1, 1);
        isRow(x, 0, 2, 1, -1, 1);
    }

    // Terms 2: "0 otherwise."
    private static void caseNought() {
        SignTables x = Checks.with(0, 0, 0, 0, 0, 1, 1);
        isRow(x, 0, 0, 0, 1, 0, 0, 0);
        isRow(x, 0, 1, 0, 1, 0, 0);
        isRow(Checks.with(1, 1), 0, 1, 0, 1);
        isRow(Checks.with(-1), 0, 0, 0, -1);
    }

    // Terms 2: "Then (ROW 0, too) all ITEMS are divided by the greatest number that divides all of them."
    private static void dividedByTheGreatest() {
        isRow(Checks.with(-99), 0, 0, 0, -1);
        SignTables x = Checks.with(4, -9, 6, 3, -8);
        isRow(x, 0, 0, 0, -4, 3, 2);
        isRow(x, 0, 1, 0, 1, -3);
        x = Checks.with(0, 8, 0, 12, 0, 20);
        isRow(x, 0, 0, 0, 5, 3, 2);
        isRow(x, 0, 1, 2, 25, 9, 2);
        x = Checks.with(0, 0, 6);
        isRow(x, 0, 0, 0, 1, 0);
        isRow(x, 0, 1, 2, 1);
        isRow(x, 0, 2, 2, 1);
        // CASE 1 first, then divided: 0, 6, 3 becomes -6, 3, 3, becomes -2, 1, 1.
        x = Checks.with(3, 0, 6, 0, 0, 1);
        isRow(x, 0, 1, 1, -2, 1, 1);
    }

    // Terms 2: "(Longs; a product, difference, sum that is none, or is the least long, makes the SIGN ROWS of
    // that FORM GREAT.)" (a product: those of a ROW, and those of CASE 2)
    private static void greatProduct() {
        checks.due("as the document's limits allow", great().roots(50, 0), -7);
        if (!Inside.isOpen()) {
            return;
        }
        // Row 2 is 2 to the 32 times 2 to the 31, less 1: none.
        checks.due("a product", Inside.with(1, 1L << 32, 1L << 31, 1).roots(0, 0), -7);
        checks.due("half of it", Inside.with(1, 1L << 31, 1L << 31, 1).roots(0, 0), 0);
        // Row 1 is 4 times (2 to the 62 and 1): none, though what is left of it is small.
        checks.due("of CASE 2", Inside.with(1, 0, 1, 0, (1L << 62) + 1).roots(0, 0), -7);
        checks.due("half of it", Inside.with(1, 0, (1L << 62) - 1).roots(0, 1), 2);
    }

    // Terms 2: "a product, difference, sum that is none" (a difference, of products that are some)
    private static void greatDifference() {
        SignTables x = Checks.with(-28, 0, -93, 81);
        int[] q = {-66, 76, -58, 16, 85, -23, 96};
        for (int i = 0; i < 7; i++) {
            x.set(1, i, q[i]);
        }
        x.gain(56);
        checks.due("as the document's limits allow", x.roots(0, 0), -7);
        long a = 1162261467;
        if (!Inside.isOpen()) {
            return;
        }
        // About 4.99 less -5 times 10 to the 18.
        checks.due("a difference", Inside.with(-5000000000000000000L, 1L << 32, a, 1).roots(0, 0), -7);
        checks.due("a lesser one", Inside.with(-3000000000000000001L, 1L << 32, a, 1).roots(0, 0), 1);
    }

    // Terms 2: "difference, sum that is none" (a sum, of CASE 1)
    private static void greatSum() {
        if (!Inside.isOpen()) {
            return;
        }
        long x = 3L << 61;
        // Row 1 is 0, x, -x, and x less -x is none, though what is left of it is small.
        checks.due("a sum", Inside.with(-x, 1, x, 1, 0, 1).roots(0, 0), -7);
        SignTables y = Inside.with(-3, 1, 3, 1, 0, 1);
        isRow(y, 0, 1, 1, -1, 2, -1);
    }

    // Terms 2: "or is the least long"
    private static void leastLong() {
        if (!Inside.isOpen()) {
            return;
        }
        // Row 2 is 2 to the 31 times -(2 to the 32), less 1 times -1.
        checks.due("a product", Inside.with(-1, -(1L << 32), 1L << 31, 1).roots(0, 0), -7);
        checks.due("one less far", Inside.with(-1, 1 - (1L << 32), 1L << 31, 1).roots(0, 0), 1);
        // Row 2 is -(2 to the 62) less 2 to the 62, and 2 to the 31 less 2 to the 31.
        long a = 1L << 31;
        checks.due("a difference", Inside.with(1, 1, a, -a, a, a).roots(0, 0), -7);
    }

    // Terms 2: "makes the SIGN ROWS of that FORM GREAT."
    private static void greatOfThatForm() {
        SignTables x = great();
        areRoots(x, 0, 2, 0, 4, -1, 0);
        areRoots(x, 50, -7, -7, -7, -7, -7);
        checks.due("row 0 is told of none", x.row(50, 0, 0), Checks.NO);
        checks.due("row 0 of PLAIN", x.row(0, 0, 0), 99);
        checks.due("the FORM is none the less", x.form(50, 6), 99);
        checks.due("its DEGREE", x.degree(50, 0), 6);
    }

    // Terms 2: "CHANGES from ROW i to ROW j: how many ROWS from i + 1 to j have ITEM 0 of another sign than the
    // ROW ahead of it."
    private static void changesBetween() {
        // Rows begin with 3, -1, 1, -1.
        SignTables x = Checks.with(-6, 11, -6, 3);
        int[] signs = new int[4];
        for (int k = 0; k < 4; k++) {
            signs[k] = Long.signum(x.row(0, k, 0));
        }
        for (int i = 0; i < 4; i++) {
            int found = 0;
            for (int j = i; j < 4; j++) {
                found += j > i && signs[j] != signs[j - 1] ? 1 : 0;
                checks.due("changes(0, " + i + ", " + j + ")", x.changes(0, i, j), found);
            }
        }
        checks.due("all of them", x.changes(0, 0, 3), 3);
        checks.due("from the last to itself", x.changes(0, 3, 3), 0);
    }

    // Terms 2: "RIGHT of a FORM: CHANGES from ROW 0 to m."
    private static void right() {
        checks.due("of DEGREE 0", Checks.with(-5).roots(0, 0), 0);
        checks.due("all", Checks.with(-1, 6, -15, 20, -15, 6, -1).roots(0, 0), 6);
        checks.due("none", Checks.with(1, 6, 15, 20, 15, 6, 1).roots(0, 0), 0);
        checks.due("the last row alone", Checks.with(-1, 1, 1).roots(0, 0), 1);
        checks.due("of SHIFT by 20", Checks.with(-19, 1).roots(50, 0), 0);
        checks.due("of SHIFT by -20", Checks.with(19, 1).roots(10, 0), 1);
    }

    // Terms 2: "AXIS: 0, if no ROW has CASE 2"
    private static void axisWithoutCaseTwo() {
        areRoots(Checks.with(1, 3, 3, 1), 0, 0, 0, 3, -1, 0);
        // CASE 1 alone is none.
        SignTables x = Checks.with(5, 0, 0, 0, 0, 1);
        checks.due("case", x.caseOf(0, 1), 1);
        checks.due("axis", x.roots(0, 1), 0);
        areRoots(Checks.with(5), 0, 0, 0, 0, -1, 0);
    }

    // Terms 2: "else, k being the first that has, m - k + 1, less twice the CHANGES from ROW k - 1 to m."
    private static void axisFromTheFirst() {
        // (s s and 1) (s s and 1): rows 1 and 3 have CASE 2.
        SignTables x = Checks.with(1, 0, 2, 0, 1);
        checks.due("the second", x.caseOf(0, 3), 2);
        areRoots(x, 0, 0, 4, 0, 1, 4);
        // k is 1, all CHANGES behind it: s s less 1.
        areRoots(Checks.with(-1, 0, 1), 0, 1, 0, 1, 1, 0);
        // k is m.
        areRoots(Checks.with(0, 1), 0, 0, 1, 0, 1, 1);
        areRoots(Checks.with(0, 2, 3, 1), 0, 0, 1, 2, 3, 1);
        // CHANGES ahead of k don't count: (s less 1) (s s and 1).
        areRoots(Checks.with(-1, 1, -1, 1), 0, 1, 2, 0, 2, 2);
        // That from ROW k - 1 to k counts: (s s less 1) (s and 1).
        areRoots(Checks.with(-1, -1, 1, 1), 0, 1, 0, 2, 2, 0);
        areRoots(Checks.with(0, 0, 0, 0, 0, 0, 7), 0, 0, 6, 0, 1, 6);
    }

    // Terms 2: "LEFT: m less RIGHT less AXIS."
    private static void left() {
        checks.due("none", Checks.with(-1, 6, -15, 20, -15, 6, -1).roots(0, 2), 0);
        checks.due("all", Checks.with(1, 6, 15, 20, 15, 6, 1).roots(0, 2), 6);
        // Of TURNED m is less than n: s s (s and 1) (s and 2).
        areRoots(Checks.with(0, 0, 2, 3, 1), 2, 0, 0, 2, -1, 0);
    }

    // Terms 2: "(Without DEGREE all three are 0.)"
    private static void withoutDegree() {
        for (int form : new int[] {0, 1, 2, 3, 10, 30, 50}) {
            areRoots(Checks.with(), form, 0, 0, 0, -1, 0);
        }
        SignTables x = Checks.reading("s+K(s)");
        x.gain(-1);
        areRoots(x, 0, 0, 0, 0, -1, 0);
    }

    // Terms 2: "ON: AXIS and LACKING (of CIRCLE)."
    private static void on() {
        areRoots(Checks.with(-1, 1), 3, 0, 0, 0, -1, 1);
        areRoots(Checks.with(1, 1), 3, 0, 1, 0, 1, 1);
        areRoots(Checks.with(-1, 0, 1), 3, 0, 1, 0, 1, 2);
        areRoots(Checks.with(1, -2, 1), 3, 0, 0, 0, -1, 2);
        areRoots(Checks.with(0, 1), 3, 0, 0, 1, -1, 0);
        areRoots(Checks.with(2, 1), 3, 1, 0, 0, -1, 0);
        // Of others LACKING is none of it: TURNED of s s s less s s.
        areRoots(Checks.with(0, 0, -1, 1), 2, 1, 0, 0, -1, 0);
    }

    // Promise 9: "ITEM j of ROW k of the SIGN ROWS."
    private static void rowAnswers() {
        SignTables x = Checks.with(1, 2, 3, 4, 5, 6, 7);
        checks.due("the first", x.row(0, 0, 0), 7);
        checks.due("the last of the first row", x.row(0, 0, 3), 1);
        checks.due("the last", x.row(0, 6, 0), 1);
        checks.due("of SHIFT by -20", Checks.with(0, 1).row(10, 1, 0), -1);
        checks.due("of SHIFT by 20", Checks.with(0, 1).row(50, 1, 0), 1);
    }

    // Promise 9: "NO: form, there is no such ROW, ITEM; NO, too, if they are GREAT."
    private static void rowRefuses() {
        SignTables x = Checks.with(1, 2, 3, 4, 5, 6, 7);
        int[][] wrong = {{-1, 0, 0}, {4, 0, 0}, {9, 0, 0}, {51, 0, 0}, {LEAST, 0, 0}, {MOST, 0, 0}, {0, -1, 0},
            {0, 7, 0}, {0, LEAST, 0}, {0, MOST, 0}, {0, 0, -1}, {0, 0, 4}, {0, 1, 3}, {0, 6, 1}, {0, 0, LEAST},
            {0, 0, MOST}, {4, 7, 4}};
        for (int[] w : wrong) {
            checks.due("row(" + w[0] + ", " + w[1] + ", " + w[2] + ")", x.row(w[0], w[1], w[2]), Checks.NO);
        }
        for (int form : new int[] {-1, 4, 9, 51, LEAST, MOST}) {
            checks.due("form " + form + ", where none is great", Checks.with(0, 1).row(form, 0, 0), Checks.NO);
        }
        checks.due("without DEGREE", Checks.with().row(0, 0, 0), Checks.NO);
        for (int k = 0; k <= 6; k++) {
            checks.due("great row " + k, great().row(50, k, 0), Checks.NO);
        }
    }

    // Promise 10: "CASE of ROW k (0 of ROW 0)."
    private static void caseOfRowNought() {
        SignTables x = Checks.with(0, 0, 0, 0, 0, 0, 1);
        checks.due("of row 0", x.caseOf(0, 0), 0);
        for (int k = 1; k <= 6; k++) {
            checks.due("of row " + k, x.caseOf(0, k), 2);
        }
        checks.due("of the last", Checks.with(1, 1).caseOf(0, 1), 0);
        checks.due("of DEGREE 0", Checks.with(1).caseOf(0, 0), 0);
    }

    // Promise 10: "BAD: form; NONE: there is no such ROW; GREAT."
    private static void caseOfRefuses() {
        SignTables x = Checks.with(1, 2, 1);
        for (int form : new int[] {-1, 4, 9, 51, LEAST, MOST}) {
            checks.due("form " + form, x.caseOf(form, 0), -2);
            checks.due("form " + form + ", no row", x.caseOf(form, 3), -2);
        }
        for (int k : new int[] {-1, 3, LEAST, MOST}) {
            checks.due("row " + k, x.caseOf(0, k), -1);
        }
        checks.due("without DEGREE", Checks.with().caseOf(0, 0), -1);
        checks.due("great", great().caseOf(50, 0), -7);
        checks.due("great, the last", great().caseOf(50, 6), -7);
        checks.due("great, no row", great().caseOf(50, 7), -1);
        checks.due("great, no row", great().caseOf(50, -1), -1);
        checks.due("great, form", great().caseOf(51, 0), -2);
    }

    // Promise 11: "What 0 RIGHT, 1 AXIS, 2 LEFT, 3 the first ROW with CASE 2 (NONE), 4 ON (of CIRCLE; of others
    // AXIS)."
    private static void rootsAnswers() {
        areRoots(Checks.with(-2, 0, -1, 0, 1), 0, 1, 2, 1, 1, 2);
        areRoots(Checks.with(0, 0, 1, 1), 0, 0, 2, 1, 2, 2);
        areRoots(Checks.with(0, 2, 3, 1), 0, 0, 1, 2, 3, 1);
        areRoots(Checks.with(1, 2, 1), 0, 0, 0, 2, -1, 0);
        areRoots(Checks.with(-1, 0, 0, 0, 1), 3, 0, 3, 0, 1, 4);
    }

    // Promise 11: "BAD: form, what; GREAT."
    private static void rootsRefuses() {
        SignTables x = Checks.with(1, 2, 1);
        for (int form : new int[] {-1, 4, 9, 51, LEAST, MOST}) {
            checks.due("form " + form, x.roots(form, 0), -2);
        }
        for (int what : new int[] {-1, 5, LEAST, MOST}) {
            checks.due("what " + what, x.roots(0, what), -2);
            checks.due("great, what " + what, great().roots(50, what), -2);
            checks.due("without DEGREE, what " + what, Checks.with().roots(0, what), -2);
        }
        for (int what = 0; what < 5; what++) {
            checks.due("great", great().roots(50, what), -7);
        }
    }

    // Promise 12: "CHANGES from ROW i to ROW j."
    private static void changesAnswers() {
        SignTables x = Checks.with(-1, 6, -15, 20, -15, 6, -1);
        checks.due("all", x.changes(0, 0, 6), 6);
        checks.due("the first", x.changes(0, 0, 1), 1);
        checks.due("the last", x.changes(0, 5, 6), 1);
        checks.due("of none", x.changes(0, 6, 6), 0);
        checks.due("of none", x.changes(0, 0, 0), 0);
        checks.due("of DEGREE 0", Checks.with(-1).changes(0, 0, 0), 0);
    }

    // Promise 12: "BAD: form; NONE: no such ROWS, j below i; GREAT."
    private static void changesRefuses() {
        SignTables x = Checks.with(1, 2, 1);
        for (int form : new int[] {-1, 4, 9, 51, LEAST, MOST}) {
            checks.due("form " + form, x.changes(form, 0, 0), -2);
            checks.due("form " + form + ", rows", x.changes(form, 3, 2), -2);
        }
        int[][] rows = {{-1, 0}, {-1, -1}, {0, 3}, {3, 3}, {3, 0}, {1, 0}, {2, 1}, {LEAST, 0}, {0, MOST}, {0, -1}};
        for (int[] r : rows) {
            checks.due("changes(0, " + r[0] + ", " + r[1] + ")", x.changes(0, r[0], r[1]), -1);
            checks.due("without DEGREE", Checks.with().changes(0, r[0], r[1]), -1);
        }
        checks.due("great", great().changes(50, 0, 6), -7);
        checks.due("great, of none", great().changes(50, 0, 0), -7);
        checks.due("great, no such row", great().changes(50, 0, 7), -1);
        checks.due("great, j below i", great().changes(50, 1, 0), -1);
        checks.due("great, form", great().changes(51, 0, 0), -2);
    }
}
