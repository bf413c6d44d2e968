/** Boundary cases of factors and of their product, a test for each sentence. */
public final class EdgesOfFactorsTest {
    private static final Checks checks = new Checks();
    private static final int LEAST = Integer.MIN_VALUE;
    private static final int MOST = Integer.MAX_VALUE;

    public static void main(String[] args) {
        sixAtMost();
        kinds();
        boundsOfAAndB();
        degreeOfOne();
        knownOfOneRoot();
        knownOfTwoRoots();
        productOfNone();
        divides();
        dividesWithoutDegree();
        factorAnswers();
        factorRefuses();
        factoredAnswers();
        factoredRefuses();
        unfactorAnswers();
        unfactorRefuses();
        knownAnswers();
        knownRefuses();
        multiplyAnswers();
        multiplyRefuses();
        checks.end();
    }

    private static SignTables with(int[]... factors) {
        SignTables x = new SignTables();
        for (int[] f : factors) {
            x.factor(f[0], f[1], f[2]);
        }
        return x;
    }

    private static int[] f(int kind, int a, int b) {
        return new int[] {kind, a, b};
    }

    private static void isFactor(SignTables x, int i, int kind, int a, int b) {
        checks.due("kind of " + i, x.factored(i, 0), kind);
        checks.due("a of " + i, x.factored(i, 1), a + 100);
        checks.due("b of " + i, x.factored(i, 2), b == -1000 ? -1 : b + 100);
    }

    private static final int NO_B = -1000;

    // Terms 6: "FACTORS 0, 1, .. as they come (6 at most; none at first)"
    private static void sixAtMost() {
        SignTables x = new SignTables();
        checks.due("none at first", x.count(5), 0);
        checks.due("none at first", x.factored(0, 0), -1);
        for (int i = 0; i < 6; i++) {
            checks.due("factor", x.factor(0, i, 0), i + 1);
        }
        checks.due("the seventh", x.factor(0, 9, 0), -4);
        for (int i = 0; i < 6; i++) {
            isFactor(x, i, 0, i, NO_B);
        }
        checks.due("the seventh is none", x.factored(6, 0), -1);
        checks.due("one less", x.unfactor(0), 5);
        checks.due("the sixth again", x.factor(0, 9, 0), 6);
        isFactor(x, 5, 0, 9, NO_B);
    }

    // Terms 6: "KIND 0: s and a; 1: s s, a s, and b; 2 under 0: s (a is 0); 3 under 1: s s, and b (a is 0);"
    private static void kinds() {
        int[][] product = {{-3, 1, 0}, {5, -3, 1}, {0, 1, 0}, {5, 0, 1}};
        for (int kind = 0; kind < 4; kind++) {
            SignTables x = with(f(kind, -3, 5));
            x.multiply();
            for (int power = 0; power < 3; power++) {
                checks.due("kind " + kind + ", power " + power, x.of(0, power), product[kind][power]);
            }
        }
        isFactor(with(f(2, -3, 5)), 0, 2, 0, NO_B);
        isFactor(with(f(3, -3, 5)), 0, 3, 0, 5);
    }

    // Terms 6: "a, b -20 .. 20."
    private static void boundsOfAAndB() {
        for (int v : new int[] {-20, 20}) {
            SignTables x = new SignTables();
            checks.due("a of kind 0", x.factor(0, v, 0), 1);
            checks.due("a and b of kind 1", x.factor(1, v, v), 2);
            checks.due("b of kind 3", x.factor(3, 0, v), 3);
            isFactor(x, 0, 0, v, NO_B);
            isFactor(x, 1, 1, v, v);
            isFactor(x, 2, 3, 0, v);
        }
        for (int v : new int[] {-21, 21}) {
            SignTables x = new SignTables();
            checks.due("a of kind 0", x.factor(0, v, 0), -2);
            checks.due("a of kind 1", x.factor(1, v, 0), -2);
            checks.due("b of kind 1", x.factor(1, 0, v), -2);
            checks.due("b of kind 3", x.factor(3, 0, v), -2);
            checks.due("none came", x.count(5), 0);
        }
    }

    // Terms 6: "DEGREE of one: how many s it begins with."
    private static void degreeOfOne() {
        int[] due = {1, 2, 1, 2};
        for (int kind = 0; kind < 4; kind++) {
            checks.due("kind " + kind, with(f(kind, 0, 0)).factored(0, 3), due[kind]);
            checks.due("kind " + kind, with(f(kind, 20, 20)).known(3), due[kind]);
        }
    }

    private static void isKnown(int[] factor, int right, int axis, int left) {
        SignTables x = with(factor);
        int[] due = {right, axis, left};
        x.multiply();
        for (int what = 0; what < 3; what++) {
            String told = factor[0] + " " + factor[1] + " " + factor[2] + ": " + what;
            checks.due(told, x.factored(0, what + 4), due[what]);
            checks.due(told, x.known(what), due[what]);
            checks.due("by sign rows " + told, x.roots(0, what), due[what]);
        }
    }

    // Terms 6: "of KIND 0 one root: RIGHT, if a is below 0; on the AXIS, if a is 0; LEFT, if it is above."
    private static void knownOfOneRoot() {
        isKnown(f(0, -20, 0), 1, 0, 0);
        isKnown(f(0, -1, 0), 1, 0, 0);
        isKnown(f(0, 0, 0), 0, 1, 0);
        isKnown(f(0, 1, 0), 0, 0, 1);
        isKnown(f(0, 20, 0), 0, 0, 1);
        isKnown(f(2, -5, -5), 0, 1, 0);
        isKnown(f(2, 5, 5), 0, 1, 0);
    }

    // Terms 6: "Of KIND 1 two: b below 0: one RIGHT, one LEFT; b 0: one on the AXIS, the other one as of KIND 0 with
    // that a; b above 0: both as of KIND 0 with that a."
    private static void knownOfTwoRoots() {
        for (int a : new int[] {-20, -1, 0, 1, 20}) {
            isKnown(f(1, a, -20), 1, 0, 1);
            isKnown(f(1, a, -1), 1, 0, 1);
            int right = a < 0 ? 1 : 0;
            int axis = a == 0 ? 1 : 0;
            int left = a > 0 ? 1 : 0;
            isKnown(f(1, a, 0), right, axis + 1, left);
            isKnown(f(1, a, 1), 2 * right, 2 * axis, 2 * left);
            isKnown(f(1, a, 20), 2 * right, 2 * axis, 2 * left);
            isKnown(f(3, a, -1), 1, 0, 1);
            isKnown(f(3, a, 0), 0, 2, 0);
            isKnown(f(3, a, 1), 0, 2, 0);
        }
    }

    // Terms 6: "PRODUCT: of all FACTORS (1, if there are none)."
    private static void productOfNone() {
        SignTables x = new SignTables();
        checks.due("of none", x.multiply(), 0);
        checks.due("1", x.of(0, 0), 1);
        checks.due("no s", x.of(0, 1), 0);
        x = with(f(2, 0, 0), f(0, 1, 0), f(0, -1, 0), f(0, 2, 0), f(0, -2, 0), f(2, 0, 0));
        checks.due("of six", x.multiply(), 6);
        int[] due = {0, 0, 4, 0, -5, 0, 1};
        for (int power = 0; power < 7; power++) {
            checks.due("power " + power, x.of(0, power), due[power]);
        }
    }

    // Terms 6: "DIVIDES: how often, one behind the other, C, then what comes of it, is divided by a FACTOR so that
    // nothing is left over"
    private static void divides() {
        // s s s (s less 1) (s less 1) (s and 2)
        SignTables x = Checks.with(0, 0, 0, 2, -3, 0, 1);
        x.factor(2, 0, 0);
        x.factor(0, -1, 0);
        x.factor(0, 2, 0);
        x.factor(1, -2, 1);
        x.factor(3, 0, 0);
        x.factor(0, 1, 0);
        int[] due = {3, 2, 1, 1, 1, 0};
        for (int i = 0; i < 6; i++) {
            checks.due("factor " + i, x.factored(i, 7), due[i]);
        }
        x = Checks.with(0, 0, 0, 0, 0, 0, 99);
        x.factor(2, 0, 0);
        x.factor(3, 0, 0);
        x.factor(0, 0, 0);
        x.factor(1, 0, 0);
        checks.due("six times", x.factored(0, 7), 6);
        checks.due("three times", x.factored(1, 7), 3);
        checks.due("s and 0", x.factored(2, 7), 6);
        checks.due("s s, 0 s and 0", x.factored(3, 7), 3);
        x.set(1, 6, -99);
        x.set(1, 1, 1);
        x.gain(1);
        checks.due("it is C that is divided", x.factored(0, 7), 1);
        checks.due("of less DEGREE", x.factored(1, 7), 0);
        x = Checks.with(0, 1, 1);
        x.factor(1, 1, 1);
        checks.due("1 is left over", x.factored(0, 7), 0);
        x.factor(1, 2, 0);
        checks.due("s is left over", x.factored(1, 7), 0);
        x.factor(1, 1, 0);
        checks.due("nothing is", x.factored(2, 7), 1);
    }

    // Terms 6: "(0, if C has no DEGREE)"
    private static void dividesWithoutDegree() {
        for (int kind = 0; kind < 4; kind++) {
            SignTables x = Checks.with();
            x.factor(kind, 0, 0);
            checks.due("without DEGREE", x.factored(0, 7), 0);
            x.set(0, 0, 4);
            checks.due("of DEGREE 0", x.factored(0, 7), 0);
            x.set(1, 0, 4);
            x.gain(-1);
            checks.due("without DEGREE by K", x.factored(0, 7), 0);
        }
    }

    // Promise 28: "A FACTOR more: how many there are."
    private static void factorAnswers() {
        SignTables x = new SignTables();
        checks.due("the first", x.factor(0, 1, 99), 1);
        checks.due("the second", x.factor(1, 1, 2), 2);
        checks.due("the same again", x.factor(1, 1, 2), 3);
        checks.due("count", x.count(5), 3);
        checks.due("P stays", x.of(0, 1), 1);
    }

    // Promise 28: "NONE: kind; BAD: a (KINDS 0, 1), b (KINDS 1, 3; where a KIND has none it does not matter); FULL."
    private static void factorRefuses() {
        SignTables x = new SignTables();
        for (int kind : new int[] {-1, 4, LEAST, MOST}) {
            checks.due("kind " + kind, x.factor(kind, 0, 0), -1);
            checks.due("kind " + kind + ", a, b", x.factor(kind, 21, 21), -1);
        }
        int[][] wrong = {{0, 21, 0}, {0, -21, 0}, {0, LEAST, 0}, {0, MOST, 0}, {1, 21, 0}, {1, -21, 0}, {1, 0, 21},
            {1, 0, -21}, {1, 0, LEAST}, {1, 0, MOST}, {3, 0, 21}, {3, 0, -21}, {3, 21, 21}};
        for (int[] w : wrong) {
            checks.due("factor(" + w[0] + ", " + w[1] + ", " + w[2] + ")", x.factor(w[0], w[1], w[2]), -2);
        }
        checks.due("none came", x.count(5), 0);
        checks.due("kind 0 has no b", x.factor(0, 0, MOST), 1);
        checks.due("kind 0 has no b", x.factor(0, 0, -21), 2);
        checks.due("kind 2 has neither", x.factor(2, LEAST, MOST), 3);
        checks.due("kind 2 has neither", x.factor(2, 21, -21), 4);
        checks.due("kind 3 has no a", x.factor(3, MOST, 0), 5);
        checks.due("kind 3 has no a", x.factor(3, -21, 0), 6);
        String before = Checks.stateOf(x);
        checks.due("full", x.factor(2, 0, 0), -4);
        checks.due("full, a", x.factor(0, 21, 0), -2);
        checks.due("full, b", x.factor(3, 0, 21), -2);
        checks.due("full, kind", x.factor(4, 0, 0), -1);
        checks.holds("nothing is changed", before.equals(Checks.stateOf(x)));
    }

    // Promise 29: "Of a FACTOR what 0 KIND, 1 a and 100, 2 b and 100 (NONE: it has no b), 3 DEGREE, 4 RIGHT, 5 AXIS,
    // 6 LEFT, 7 DIVIDES."
    private static void factoredAnswers() {
        int[][] factors = {f(0, -20, 20), f(1, 20, -20), f(2, 20, 20), f(3, 20, 20), f(1, 0, 0), f(0, 0, 0)};
        SignTables x = with(factors);
        int[][] due = {{0, 80, -1, 1, 1, 0, 0, 0}, {1, 120, 80, 2, 1, 0, 1, 0}, {2, 100, -1, 1, 0, 1, 0, 1},
            {3, 100, 120, 2, 0, 2, 0, 0}, {1, 100, 100, 2, 0, 2, 0, 0}, {0, 100, -1, 1, 0, 1, 0, 1}};
        for (int i = 0; i < 6; i++) {
            for (int what = 0; what < 8; what++) {
                checks.due("factored(" + i + ", " + what + ")", x.factored(i, what), due[i][what]);
            }
        }
    }

    // Promise 29: "NONE: i, what."
    private static void factoredRefuses() {
        SignTables x = with(f(1, 1, 1), f(2, 0, 0));
        for (int i : new int[] {-1, 2, 5, 6, LEAST, MOST}) {
            checks.due("i " + i, x.factored(i, 0), -1);
            checks.due("i " + i, x.factored(i, 7), -1);
        }
        for (int what : new int[] {-1, 8, LEAST, MOST}) {
            checks.due("what " + what, x.factored(1, what), -1);
        }
        checks.due("of none", new SignTables().factored(0, 0), -1);
    }

    // Promise 30: "A FACTOR is none any more, those behind it have a number 1 less: how many there are."
    private static void unfactorAnswers() {
        SignTables x = with(f(0, 1, 0), f(1, 2, 3), f(2, 0, 0), f(3, 0, 4), f(0, 5, 0), f(1, 6, 7));
        checks.due("the last", x.unfactor(5), 5);
        checks.due("one in the middle", x.unfactor(2), 4);
        checks.due("the first", x.unfactor(0), 3);
        isFactor(x, 0, 1, 2, 3);
        isFactor(x, 1, 3, 0, 4);
        isFactor(x, 2, 0, 5, NO_B);
        checks.due("no fourth", x.factored(3, 0), -1);
        x.unfactor(1);
        x.unfactor(1);
        checks.due("the only one", x.unfactor(0), 0);
        checks.due("none is left", x.factored(0, 0), -1);
        checks.due("none is known", x.known(3), 0);
    }

    // Promise 30: "NONE."
    private static void unfactorRefuses() {
        SignTables x = with(f(0, 1, 0), f(1, 2, 3));
        String before = Checks.stateOf(x);
        for (int i : new int[] {-1, 2, 6, LEAST, MOST}) {
            checks.due("unfactor(" + i + ")", x.unfactor(i), -1);
        }
        checks.holds("nothing is changed", before.equals(Checks.stateOf(x)));
        checks.due("of none", new SignTables().unfactor(0), -1);
    }

    // Promise 31: "Of all FACTORS together what 0 RIGHT, 1 AXIS, 2 LEFT, 3 DEGREE."
    private static void knownAnswers() {
        for (int what = 0; what < 4; what++) {
            checks.due("of none", new SignTables().known(what), 0);
        }
        SignTables x = with(f(1, -1, 1), f(1, -1, 1), f(1, -1, 1), f(1, -1, 1), f(1, -1, 1), f(1, -1, 1));
        checks.due("twelve right", x.known(0), 12);
        checks.due("of DEGREE 12", x.known(3), 12);
        x = with(f(0, -1, 0), f(1, 5, -1), f(2, 0, 0), f(3, 0, 1), f(0, 1, 0), f(1, 3, 0));
        checks.due("right", x.known(0), 2);
        checks.due("axis", x.known(1), 4);
        checks.due("left", x.known(2), 3);
        checks.due("degree", x.known(3), 9);
    }

    // Promise 31: "BAD."
    private static void knownRefuses() {
        for (int what : new int[] {-1, 4, LEAST, MOST}) {
            checks.due("known(" + what + ")", with(f(0, 1, 0)).known(what), -2);
        }
    }

    // Promise 32: "P becomes the PRODUCT (Q, K stay): its DEGREE."
    private static void multiplyAnswers() {
        SignTables x = Checks.reading("9s6+9+K(8s6+8)");
        x.gain(-7);
        checks.due("of none", x.multiply(), 0);
        checks.due("P", x.of(0, 6), 0);
        checks.due("P", x.of(0, 0), 1);
        x.factor(2, 0, 0);
        checks.due("of one", x.multiply(), 1);
        checks.due("P", x.of(0, 0), 0);
        checks.due("P", x.of(0, 1), 1);
        checks.due("Q stays", x.of(1, 6), 8);
        checks.due("Q stays", x.of(1, 0), 8);
        checks.due("K stays", x.count(4), 993);
        checks.due("the factors stay", x.count(5), 1);
    }

    // Promise 32: "STATE: that is above 6; GREAT: a COEFFICIENT is beyond -99 .. 99."
    private static void multiplyRefuses() {
        checks.due("of DEGREE 6", with(f(3, 0, 1), f(3, 0, 1), f(3, 0, 1)).multiply(), 6);
        SignTables x = with(f(3, 0, 1), f(3, 0, 1), f(3, 0, 1), f(2, 0, 0));
        checks.due("of DEGREE 7", x.multiply(), -3);
        checks.due("P stays", x.of(0, 1), 1);
        checks.due("of DEGREE 12", with(f(1, 1, 1), f(1, 1, 1), f(1, 1, 1), f(1, 1, 1), f(1, 1, 1), f(1, 1, 1))
            .multiply(), -3);
        checks.due("99", with(f(0, 11, 0), f(0, 9, 0)).multiply(), 2);
        checks.due("-99", with(f(0, -11, 0), f(0, 9, 0)).multiply(), 2);
        checks.due("100", with(f(0, 20, 0), f(0, 5, 0)).multiply(), -7);
        checks.due("-100", with(f(0, -20, 0), f(0, 5, 0)).multiply(), -7);
        checks.due("100 s", with(f(0, 20, 0), f(0, 5, 0), f(2, 0, 0)).multiply(), -7);
        checks.due("100 of POWER 4", with(f(0, 20, 0), f(0, 5, 0), f(3, 0, 0), f(3, 0, 0)).multiply(), -7);
        x = with(f(0, 20, 0), f(0, 5, 0));
        x.set(0, 0, 7);
        String before = Checks.stateOf(x);
        checks.due("great", x.multiply(), -7);
        checks.holds("nothing is changed", before.equals(Checks.stateOf(x)));
        checks.due("both", with(f(0, 20, 0), f(0, 20, 0), f(3, 0, 1), f(3, 0, 1), f(2, 0, 0)).multiply(), -3);
    }
}
