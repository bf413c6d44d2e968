/** Promises 1 to 4, 7 and 8: P, Q, K, C and its forms. */
public final class CoefficientsTest {
    private static final Checks checks = new Checks();

    public static void main(String[] args) {
        aNewObject();
        setAndOf();
        setRefuses();
        gain();
        formsByHand();
        formsByValues();
        degrees();
        withoutDegree();
        checks.end();
    }

    private static void aNewObject() {
        SignTables x = new SignTables();
        for (int power = 0; power < 7; power++) {
            checks.due("new of(0, " + power + ")", x.of(0, power), power == 1 ? 1 : 0);
            checks.due("new of(1, " + power + ")", x.of(1, power), 0);
            checks.due("new of(2, " + power + ")", x.of(2, power), power == 1 ? 1 : 0);
        }
        for (int what = 0; what < 6; what++) {
            int due = what == 4 ? 1000 : what == 3 ? 1 : 0;
            checks.due("new count(" + what + ")", x.count(what), due);
        }
        for (int tray = 0; tray < 4; tray++) {
            checks.due("new put(" + tray + ")", x.put(tray, 0, 1), -11);
        }
        checks.due("new undo()", x.undo(), -3);
        checks.due("NO", SignTables.NO, Long.MIN_VALUE);
    }

    private static void setAndOf() {
        SignTables x = new SignTables();
        checks.due("set", x.set(0, 1, -7), 1);
        checks.due("set again", x.set(0, 1, 99), -7);
        checks.due("set Q", x.set(1, 6, -99), 0);
        checks.due("set Q again", x.set(1, 6, -98), -99);
        checks.due("P", x.of(0, 1), 99);
        checks.due("Q", x.of(1, 6), -98);
        checks.due("Q beside", x.of(1, 1), 0);
        checks.due("C at 0", x.of(2, 6), 0);
        x.gain(-100);
        checks.due("C", x.of(2, 6), 9800);
        checks.due("C of P alone", x.of(2, 1), 99);
        x.set(0, 6, 5);
        checks.due("C of both", x.of(2, 6), 9805);
    }

    private static void setRefuses() {
        SignTables x = new SignTables();
        String before = Checks.stateOf(x);
        int[][] wrong = {{-1, 0, 0}, {2, 0, 0}, {0, -1, 0}, {0, 7, 0}, {1, 7, 1}, {0, 0, 100},
            {1, 0, -100}, {0, 1, Integer.MIN_VALUE}, {Integer.MAX_VALUE, 0, 0}};
        for (int[] w : wrong) {
            checks.due("set(" + w[0] + ", " + w[1] + ", " + w[2] + ")", x.set(w[0], w[1], w[2]), Checks.NO);
        }
        int[][] asked = {{-1, 0}, {3, 0}, {0, -1}, {0, 7}, {2, 7}, {2, -1}};
        for (int[] w : asked) {
            checks.due("of(" + w[0] + ", " + w[1] + ")", x.of(w[0], w[1]), Checks.NO);
        }
        checks.holds("a refused set changes nothing", before.equals(Checks.stateOf(x)));
    }

    private static void gain() {
        SignTables x = Checks.reading("s+K(1)");
        checks.due("gain(100)", x.gain(100), 1);
        checks.due("C", x.of(2, 0), 100);
        checks.due("gain(-100)", x.gain(-100), 1);
        checks.due("C", x.of(2, 0), -100);
        checks.due("gain(101)", x.gain(101), -2);
        checks.due("gain(-101)", x.gain(-101), -2);
        checks.due("K stays", x.count(4), 900);
    }

    private static void formsByHand() {
        SignTables x = Checks.with(1, 2, 0, 5);
        long[][] due = {{0, 1, 2, 0, 5}, {1, 1, -2, 0, -5}, {2, 5, 0, 2, 1}, {31, 8, 17, 15, 5}};
        for (long[] row : due) {
            for (int power = 0; power < 4; power++) {
                checks.due("form(" + row[0] + ", " + power + ")", x.form((int) row[0], power), row[power + 1]);
            }
        }
        // 1 (s-1)^3 + 2 (s+1)(s-1)^2 + 5 (s+1)^3
        long[] circle = {6, 16, 10, 8};
        for (int power = 0; power < 4; power++) {
            checks.due("form(3, " + power + ")", x.form(3, power), circle[power]);
        }
        for (int power = 4; power < 7; power++) {
            checks.due("form(3, " + power + ")", x.form(3, power), 0);
        }
        int[][] wrong = {{-1, 0}, {4, 0}, {9, 0}, {51, 0}, {0, -1}, {0, 7}, {10, 7}};
        for (int[] w : wrong) {
            checks.due("form(" + w[0] + ", " + w[1] + ")", x.form(w[0], w[1]), Checks.NO);
        }
    }

    private static long valueOfForm(SignTables x, int form, long at) {
        long value = 0;
        for (int power = 6; power >= 0; power--) {
            value = value * at + x.form(form, power);
        }
        return value;
    }

    private static long valueOfC(SignTables x, long at) {
        long value = 0;
        for (int power = 6; power >= 0; power--) {
            value = value * at + x.of(2, power);
        }
        return value;
    }

    private static long power(long base, int exponent) {
        long all = 1;
        for (int i = 0; i < exponent; i++) {
            all *= base;
        }
        return all;
    }

    // A polynomial of degree 6 is told by its values at seven places.
    private static void formsByValues() {
        Polys random = new Polys(7);
        for (int n = 0; n <= 6; n++) {
            for (int round = 0; round < 10; round++) {
                SignTables x = random.object(n, 99);
                int top = x.degree(0, 0);
                for (long at = -4; at <= 4; at++) {
                    checks.due("PLAIN", valueOfForm(x, 0, at), valueOfC(x, at));
                    checks.due("MIRROR", valueOfForm(x, 1, at), valueOfC(x, -at));
                    for (int form = 10; form <= 50; form++) {
                        checks.due("SHIFT", valueOfForm(x, form, at), valueOfC(x, at + form - 30));
                    }
                    long circle = 0;
                    for (int i = 0; i <= top; i++) {
                        circle += x.of(2, i) * power(at + 1, i) * power(at - 1, top - i);
                    }
                    checks.due("CIRCLE", valueOfForm(x, 3, at), circle);
                }
                for (int i = 0; i < 7; i++) {
                    checks.due("TURNED", x.form(2, i), i <= top ? x.of(2, top - i) : 0);
                }
            }
        }
    }

    private static void degrees() {
        SignTables x = Checks.with(0, 0, 3, 0, 1);
        checks.due("degree", x.degree(0, 0), 4);
        checks.due("TURNED", x.degree(2, 0), 2);
        checks.due("TURNED lacks", x.degree(2, 1), 2);
        checks.due("SHIFT", x.degree(50, 0), 4);
        checks.due("SHIFT lacks", x.degree(10, 1), 0);
        x = Checks.with(1, -2, 1);
        checks.due("CIRCLE of two roots at 1", x.degree(3, 0), 0);
        checks.due("CIRCLE lacks", x.degree(3, 1), 2);
        x = Checks.reading("s2+1-K(s2)");
        checks.due("degree of C", x.degree(0, 0), 2);
        x.gain(1);
        checks.due("degree of C", x.degree(0, 0), 0);
        int[][] wrong = {{4, 0}, {9, 1}, {51, 0}, {-1, 0}, {0, 2}, {0, -1}};
        for (int[] w : wrong) {
            checks.due("degree(" + w[0] + ", " + w[1] + ")", x.degree(w[0], w[1]), -2);
        }
    }

    private static void withoutDegree() {
        SignTables x = Checks.with();
        for (int form : new int[] {0, 1, 2, 3, 10, 30, 50}) {
            checks.due("degree", x.degree(form, 0), -1);
            checks.due("lacking", x.degree(form, 1), 0);
            checks.due("form", x.form(form, 0), 0);
            checks.due("row", x.row(form, 0, 0), Checks.NO);
            checks.due("caseOf", x.caseOf(form, 0), -1);
            checks.due("changes", x.changes(form, 0, 0), -1);
            for (int what = 0; what < 5; what++) {
                checks.due("roots " + what, x.roots(form, what), what == 3 ? -1 : 0);
            }
        }
        checks.due("strip", x.strip(-20, 20), 0);
        checks.due("reach", x.reach(), -2);
        checks.due("links", x.links(), -2);
        checks.due("rights", x.rights(0), 0);
    }
}
