/** Promises 28 to 32: factors, what is known of them, and their product. */
public final class FactorTest {
    private static final Checks checks = new Checks();

    public static void main(String[] args) {
        factor();
        factorRefuses();
        factored();
        divides();
        unfactor();
        known();
        multiply();
        multiplyRefuses();
        checks.end();
    }

    private static void isFactored(SignTables x, int i, int... due) {
        for (int what = 0; what < due.length; what++) {
            checks.due("factored(" + i + ", " + what + ")", x.factored(i, what), due[what]);
        }
    }

    private static void factor() {
        SignTables x = new SignTables();
        checks.due("factor(0, -20, 99)", x.factor(0, -20, 99), 1);
        checks.due("factor(1, 20, -20)", x.factor(1, 20, -20), 2);
        checks.due("factor(2, 99, 99)", x.factor(2, 99, 99), 3);
        checks.due("factor(3, 99, 20)", x.factor(3, 99, 20), 4);
        checks.due("count(5)", x.count(5), 4);
        isFactored(x, 0, 0, 80, -1, 1);
        isFactored(x, 1, 1, 120, 80, 2);
        isFactored(x, 2, 2, 100, -1, 1);
        isFactored(x, 3, 3, 100, 120, 2);
    }

    private static void factorRefuses() {
        SignTables x = new SignTables();
        checks.due("factor(-1, ..)", x.factor(-1, 99, 99), -1);
        checks.due("factor(4, ..)", x.factor(4, 0, 0), -1);
        int[][] wrong = {{0, 21, 0}, {0, -21, 0}, {1, 21, 0}, {1, 0, 21}, {1, 0, -21}, {3, 0, 21}, {3, 0, -21}};
        for (int[] w : wrong) {
            checks.due("factor(" + w[0] + ", " + w[1] + ", " + w[2] + ")", x.factor(w[0], w[1], w[2]), -2);
        }
        checks.due("count(5)", x.count(5), 0);
        for (int i = 1; i <= 6; i++) {
            checks.due("factor", x.factor(2, 0, 0), i);
        }
        checks.due("factor beyond", x.factor(2, 0, 0), -4);
        checks.due("wrong factor beyond", x.factor(0, 21, 0), -2);
        checks.due("no factor beyond", x.factor(4, 0, 0), -1);
        checks.due("factored(6, 0)", x.factored(6, 0), -1);
        checks.due("factored(-1, 0)", x.factored(-1, 0), -1);
        checks.due("factored(0, 8)", x.factored(0, 8), -1);
        checks.due("factored(0, -1)", x.factored(0, -1), -1);
    }

    // Kind, a, b, and how many roots are right, on the axis, left.
    private static final int[][] KNOWN = {
        {0, -3, 0, 1, 0, 0}, {0, 0, 0, 0, 1, 0}, {0, 3, 0, 0, 0, 1}, {2, 7, 7, 0, 1, 0},
        {1, -3, -2, 1, 0, 1}, {1, 0, -2, 1, 0, 1}, {1, 3, -2, 1, 0, 1},
        {1, -3, 0, 1, 1, 0}, {1, 0, 0, 0, 2, 0}, {1, 3, 0, 0, 1, 1},
        {1, -3, 5, 2, 0, 0}, {1, 0, 5, 0, 2, 0}, {1, 3, 5, 0, 0, 2},
        {3, 7, -5, 1, 0, 1}, {3, 7, 0, 0, 2, 0}, {3, -7, 5, 0, 2, 0},
    };

    private static void factored() {
        for (int[] due : KNOWN) {
            SignTables x = new SignTables();
            x.factor(due[0], due[1], due[2]);
            for (int what = 0; what < 3; what++) {
                checks.due("factored(0, " + (what + 4) + ")", x.factored(0, what + 4), due[what + 3]);
                checks.due("known(" + what + ")", x.known(what), due[what + 3]);
            }
            x.multiply();
            for (int what = 0; what < 3; what++) {
                checks.due("roots(0, " + what + ")", x.roots(0, what), due[what + 3]);
            }
            checks.due("divides its own", x.factored(0, 7), 1);
        }
    }

    private static void divides() {
        // (s + 2)^3 (s - 1)
        SignTables x = Checks.with(-8, -4, 6, 5, 1);
        x.factor(0, 2, 0);
        x.factor(0, -1, 0);
        x.factor(1, 4, 4);
        x.factor(1, 1, -2);
        x.factor(2, 0, 0);
        x.factor(3, 0, 1);
        int[] due = {3, 1, 1, 1, 0, 0};
        for (int i = 0; i < 6; i++) {
            checks.due("factored(" + i + ", 7)", x.factored(i, 7), due[i]);
        }
        x = Checks.reading("s6+K(s4)");
        x.factor(2, 0, 0);
        x.factor(3, 0, 0);
        x.factor(1, 0, 1);
        x.factor(0, 20, 0);
        checks.due("s", x.factored(0, 7), 6);
        checks.due("s s", x.factored(1, 7), 3);
        checks.due("s s and 1", x.factored(2, 7), 0);
        x.gain(1);
        checks.due("s, gain 1", x.factored(0, 7), 4);
        checks.due("s s, gain 1", x.factored(1, 7), 2);
        checks.due("s s and 1, gain 1", x.factored(2, 7), 1);
        checks.due("s and 20", x.factored(3, 7), 0);
        SignTables none = Checks.with();
        none.factor(2, 0, 0);
        checks.due("of no degree", none.factored(0, 7), 0);
        none.set(0, 0, 5);
        checks.due("of degree 0", none.factored(0, 7), 0);
        none.factor(1, 0, 0);
        none.set(0, 1, 5);
        none.set(0, 0, 0);
        checks.due("s divides 5 s", none.factored(0, 7), 1);
        checks.due("s s does not", none.factored(1, 7), 0);
        // (s s and 1) (s and 1), and 5 s that are left over
        x = Checks.with(1, 6, 1, 1);
        x.factor(1, 0, 1);
        checks.due("5 s are left over", x.factored(0, 7), 0);
        x = Checks.with(6, 1, 1, 1);
        x.factor(3, 0, 1);
        checks.due("5 are left over", x.factored(0, 7), 0);
    }

    private static void unfactor() {
        SignTables x = new SignTables();
        checks.due("unfactor of none", x.unfactor(0), -1);
        x.factor(0, 1, 0);
        x.factor(1, 2, 3);
        x.factor(3, 0, 4);
        checks.due("unfactor(3)", x.unfactor(3), -1);
        checks.due("unfactor(-1)", x.unfactor(-1), -1);
        checks.due("unfactor(0)", x.unfactor(0), 2);
        isFactored(x, 0, 1, 102, 103);
        isFactored(x, 1, 3, 100, 104);
        checks.due("factored(2, 0)", x.factored(2, 0), -1);
        checks.due("unfactor(1)", x.unfactor(1), 1);
        isFactored(x, 0, 1, 102, 103);
        checks.due("factor", x.factor(0, 9, 0), 2);
        isFactored(x, 0, 1, 102, 103);
        isFactored(x, 1, 0, 109, -1);
    }

    private static void known() {
        SignTables x = new SignTables();
        for (int what = 0; what < 4; what++) {
            checks.due("known of none", x.known(what), 0);
        }
        checks.due("known(-1)", x.known(-1), -2);
        checks.due("known(4)", x.known(4), -2);
        for (int i = 0; i < 6; i++) {
            x.factor(1, i - 1, 5);
        }
        checks.due("known(0)", x.known(0), 2);
        checks.due("known(1)", x.known(1), 2);
        checks.due("known(2)", x.known(2), 8);
        checks.due("known(3)", x.known(3), 12);
    }

    private static void multiply() {
        SignTables x = Checks.reading("s6+5+K(7s2)");
        x.gain(4);
        checks.due("product of none", x.multiply(), 0);
        checks.due("1", x.of(0, 0), 1);
        checks.due("P 6", x.of(0, 6), 0);
        checks.due("Q stays", x.of(1, 2), 7);
        checks.due("K stays", x.count(4), 1004);
        x.factor(0, 2, 0);
        x.factor(1, -1, 3);
        x.factor(3, 0, -2);
        // (s + 2) (s s - s + 3) (s s - 2)
        long[] due = {-12, -2, 4, -1, 1, 1, 0};
        checks.due("multiply", x.multiply(), 5);
        for (int power = 0; power < 7; power++) {
            checks.due("P " + power, x.of(0, power), due[power]);
        }
        x.factor(2, 0, 0);
        checks.due("multiply", x.multiply(), 6);
        for (int power = 1; power < 7; power++) {
            checks.due("P " + power, x.of(0, power), due[power - 1]);
        }
        checks.due("P 0", x.of(0, 0), 0);
    }

    private static void multiplyRefuses() {
        SignTables x = Checks.reading("s+4");
        x.factor(0, 20, 0);
        x.factor(0, 5, 0);
        checks.due("100", x.multiply(), -7);
        checks.due("P stays", x.of(0, 0), 4);
        x.unfactor(1);
        x.factor(0, -5, 0);
        checks.due("-100", x.multiply(), -7);
        x.unfactor(0);
        x.unfactor(0);
        x.factor(0, 11, 0);
        x.factor(0, 9, 0);
        checks.due("99", x.multiply(), 2);
        checks.due("P", x.of(0, 0), 99);
        x.factor(1, 20, 20);
        x.factor(1, 20, 20);
        checks.due("degree 6, great", x.multiply(), -7);
        x.factor(2, 0, 0);
        checks.due("degree 7", x.multiply(), -3);
        checks.due("P stays", x.of(0, 0), 99);
        SignTables y = new SignTables();
        y.factor(0, -11, 0);
        y.factor(0, 9, 0);
        checks.due("-99", y.multiply(), 2);
        checks.due("P", y.of(0, 0), -99);
        y.unfactor(0);
        y.unfactor(0);
        y.factor(0, 12, 0);
        y.factor(0, 9, 0);
        y.factor(2, 0, 0);
        checks.due("108 s", y.multiply(), -7);
    }
}
