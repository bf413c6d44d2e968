import java.math.BigInteger;
import java.util.List;

/** Promises 9 to 12: the sign rows, and the roots that they count. */
public final class RowsTest {
    private static final Checks checks = new Checks();
    private static int great;
    private static int sound;

    public static void main(String[] args) {
        rowsByHand();
        mendedByTwo();
        refusals();
        againstWholeNumbers();
        againstKnownRoots();
        symmetric();
        onTheCircle();
        checks.end();
    }

    private static void row(SignTables x, int form, int k, int ofCase, long... items) {
        checks.due("caseOf(" + form + ", " + k + ")", x.caseOf(form, k), ofCase);
        for (int j = 0; j < items.length; j++) {
            checks.due("row(" + form + ", " + k + ", " + j + ")", x.row(form, k, j), items[j]);
        }
        checks.due("row behind its end", x.row(form, k, items.length), Checks.NO);
        checks.due("row ahead of it", x.row(form, k, -1), Checks.NO);
    }

    private static void rowsByHand() {
        SignTables x = Checks.with(30, -6, 12, -2);
        row(x, 0, 0, 0, -1, -3);
        row(x, 0, 1, 0, 2, 5);
        row(x, 0, 2, 0, -1);
        row(x, 0, 3, 0, 1);
        checks.due("changes(0, 0, 3)", x.changes(0, 0, 3), 3);
        checks.due("changes(0, 0, 1)", x.changes(0, 0, 1), 1);
        checks.due("changes(0, 1, 1)", x.changes(0, 1, 1), 0);
        checks.due("changes(0, 1, 2)", x.changes(0, 1, 2), 1);
        x = Checks.with(-4, 0, 3, 0, 1);
        row(x, 0, 0, 0, 1, 3, -4);
        row(x, 0, 1, 2, 2, 3);
        row(x, 0, 2, 0, 3, -8);
        row(x, 0, 3, 0, 1);
        row(x, 0, 4, 0, -1);
        checks.due("right", x.roots(0, 0), 1);
        checks.due("axis", x.roots(0, 1), 2);
        checks.due("left", x.roots(0, 2), 1);
        checks.due("first", x.roots(0, 3), 1);
        x = Checks.with(-8);
        row(x, 0, 0, 0, -1);
        checks.due("right", x.roots(0, 0), 0);
        checks.due("left", x.roots(0, 2), 0);
    }

    // Two zeros begin the row: what stands behind them comes as it is.
    private static void mendedByTwo() {
        SignTables x = Checks.with(-3, 5, 0, 0, 0, 0, 2);
        row(x, 0, 0, 0, 2, 0, 0, -3);
        row(x, 0, 1, 1, 1, 0, 1);
        row(x, 0, 2, 1, 2, 1, -3);
        x = Checks.with(-3, 0, 5, 0, 0, 4, 2);
        row(x, 0, 1, 0, 1, 0, 0);
        row(x, 0, 2, 1, -5, 8, -3);
    }

    private static void refusals() {
        SignTables x = Checks.with(1, 1, 1);
        for (int form : new int[] {-1, 4, 9, 51, Integer.MAX_VALUE}) {
            checks.due("row", x.row(form, 0, 0), Checks.NO);
            checks.due("caseOf", x.caseOf(form, 0), -2);
            checks.due("caseOf", x.caseOf(form, 9), -2);
            checks.due("roots", x.roots(form, 0), -2);
            checks.due("changes", x.changes(form, 0, 0), -2);
            checks.due("changes", x.changes(form, 2, 1), -2);
        }
        for (int k : new int[] {-1, 3, Integer.MIN_VALUE}) {
            checks.due("row", x.row(0, k, 0), Checks.NO);
            checks.due("caseOf", x.caseOf(0, k), -1);
            checks.due("changes", x.changes(0, k, 2), -1);
            checks.due("changes", x.changes(0, 0, k), -1);
        }
        checks.due("changes", x.changes(0, 1, 0), -1);
        checks.due("roots", x.roots(0, 5), -2);
        checks.due("roots", x.roots(0, -1), -2);
        SignTables y = Checks.with(98, 97, 93, -95, 89, -99, 99);
        checks.due("row of great ones", y.row(50, 0, 0), Checks.NO);
        checks.due("case of great ones", y.caseOf(50, 0), -7);
        checks.due("no row of great ones", y.caseOf(50, 7), -1);
        checks.due("changes of great ones", y.changes(50, 0, 6), -7);
        checks.due("no changes of great ones", y.changes(50, 0, 7), -1);
        checks.due("roots of great ones", y.roots(50, 3), -7);
        checks.due("no such what of great ones", y.roots(50, 5), -2);
    }

    private static void isAsDue(SignTables x, int form) {
        List<BigInteger> c = Polys.form(x, form);
        int m = Polys.degree(c);
        Polys.Rows due;
        try {
            due = new Polys.Rows(c);
        } catch (Polys.TooGreat e) {
            great++;
            checks.due("roots of great ones", x.roots(form, 0), -7);
            checks.due("case of great ones", x.caseOf(form, m), -7);
            return;
        }
        sound++;
        for (int k = 0; k <= m; k++) {
            checks.due("case", x.caseOf(form, k), due.cases.get(k));
            for (int j = 0; j < due.rows.get(k).size(); j++) {
                checks.due("row", x.row(form, k, j), due.rows.get(k).get(j).longValueExact());
            }
            checks.due("changes", x.changes(form, 0, k), due.changes(0, k));
            checks.due("changes", x.changes(form, k, m), due.changes(k, m));
        }
        checks.due("right", x.roots(form, 0), due.right());
        checks.due("axis", x.roots(form, 1), due.axis());
        checks.due("left", x.roots(form, 2), m - due.right() - due.axis());
        checks.due("first", x.roots(form, 3), due.cases.indexOf(2));
        int on = due.axis() + (form == 3 ? x.degree(form, 1) : 0);
        checks.due("on", x.roots(form, 4), on);
    }

    private static void againstWholeNumbers() {
        Polys random = new Polys(11);
        for (int round = 0; round < 400; round++) {
            SignTables x = random.object(1 + round % 6, round % 2 == 0 ? 2 : 99);
            if (round % 3 == 0) {
                x.set(1, random.number(0, 6), random.number(-99, 99));
                x.set(1, random.number(0, 6), random.number(-99, 99));
                x.gain(random.number(-100, 100));
            }
            for (int form : new int[] {0, 1, 2, 3, 10, 17, 29, 31, 33, 44, 50}) {
                isAsDue(x, form);
            }
        }
        checks.holds("there were great ones: " + great, great > 100);
        checks.holds("there were sound ones: " + sound, sound > 2000);
    }

    private static void againstKnownRoots() {
        Polys random = new Polys(13);
        int seen = 0;
        for (int round = 0; round < 3000; round++) {
            SignTables x = new SignTables();
            int n = random.number(1, 4);
            for (int i = 0; i < n; i++) {
                x.factor(random.number(0, 3), random.number(-2, 2), random.number(-2, 3));
            }
            int size = x.multiply();
            if (size < 0) {
                continue;
            }
            seen++;
            for (int what = 0; what < 3; what++) {
                checks.due("roots and known " + what, x.roots(0, what), x.known(what));
            }
            checks.due("mirrored right", x.roots(1, 0), x.known(2));
            checks.due("mirrored axis", x.roots(1, 1), x.known(1));
            checks.due("mirrored left", x.roots(1, 2), x.known(0));
        }
        checks.holds("there were products", seen > 1000);
    }

    // Roots at s lie as those at 1 over s do: on the same side.
    private static void symmetric() {
        Polys random = new Polys(17);
        for (int round = 0; round < 300; round++) {
            SignTables x = random.object(1 + round % 6, 3);
            if (x.of(2, 0) == 0 || x.roots(0, 0) < 0) {
                continue;
            }
            for (int what = 0; what < 3; what++) {
                checks.due("turned " + what, x.roots(2, what), x.roots(0, what));
                checks.due("shifted by 0, " + what, x.roots(30, what), x.roots(0, what));
            }
        }
    }

    private static void onTheCircle() {
        // s s (s - 1) (s + 1) (s - 2): two within, two on, one out of the circle.
        SignTables x = Checks.with(0, 0, 2, -1, -2, 1);
        checks.due("out", x.roots(3, 0), 1);
        checks.due("within", x.roots(3, 2), 2);
        checks.due("on", x.roots(3, 4), 2);
        checks.due("on the axis", x.roots(3, 1), 1);
        checks.due("plain on is axis", x.roots(0, 4), x.roots(0, 1));
        x = Checks.with(0, 0, 0, 1);
        checks.due("turned on is axis alone", x.roots(2, 4), 0);
        checks.due("turned lacks", x.degree(2, 1), 3);
    }
}
