/** Boundary cases of P, Q, K, C and its forms, a test for each sentence. */
public final class EdgesOfFormsTest {
    private static final Checks checks = new Checks();
    private static final int LEAST = Integer.MIN_VALUE;
    private static final int MOST = Integer.MAX_VALUE;

    public static void main(String[] args) {
        coefficientBounds();
        powerBounds();
        atFirst();
        gainBounds();
        extremesOfC();
        degreeOrNone();
        plain();
        mirrorTurnsOddOnes();
        turned();
        circle();
        shiftBounds();
        lacking();
        formOfNone();
        formsWithoutDegree();
        newObject();
        setAnswersWhatItWas();
        setRefuses();
        ofThree();
        ofRefuses();
        gainAnswers();
        gainRefuses();
        formPowers();
        formRefuses();
        degreeAnswers();
        degreeRefuses();
        checks.end();
    }

    private static void isForm(SignTables x, int form, long... due) {
        for (int power = 0; power < 7; power++) {
            long want = power < due.length ? due[power] : 0;
            checks.due("form(" + form + ", " + power + ")", x.form(form, power), want);
        }
    }

    // Terms 1: "P and Q have COEFFICIENTS (-99 .. 99)"
    private static void coefficientBounds() {
        for (int which = 0; which < 2; which++) {
            SignTables x = new SignTables();
            checks.due("set 99", x.set(which, 3, 99), 0);
            checks.due("set 100", x.set(which, 3, 100), Checks.NO);
            checks.due("99 stays", x.of(which, 3), 99);
            checks.due("set -99", x.set(which, 3, -99), 99);
            checks.due("set -100", x.set(which, 3, -100), Checks.NO);
            checks.due("-99 stays", x.of(which, 3), -99);
        }
    }

    // Terms 1: "of POWERS 0 .. 6"
    private static void powerBounds() {
        SignTables x = new SignTables();
        for (int which = 0; which < 2; which++) {
            checks.due("set power 0", x.set(which, 0, 5), 0);
            checks.due("set power 6", x.set(which, 6, 7), 0);
            checks.due("set power -1", x.set(which, -1, 5), Checks.NO);
            checks.due("set power 7", x.set(which, 7, 5), Checks.NO);
            checks.due("of power 0", x.of(which, 0), 5);
            checks.due("of power 6", x.of(which, 6), 7);
        }
    }

    // Terms 1: "at first P 1 of POWER 1, all others 0."
    private static void atFirst() {
        SignTables x = new SignTables();
        for (int power = 0; power < 7; power++) {
            checks.due("P", x.of(0, power), power == 1 ? 1 : 0);
            checks.due("Q", x.of(1, power), 0);
        }
    }

    // Terms 1: "K is a whole number (-100 .. 100; 0 at first)."
    private static void gainBounds() {
        SignTables x = Checks.reading("s+K(1)");
        checks.due("K at first", x.count(4), 1000);
        checks.due("C at first", x.of(2, 0), 0);
        checks.due("gain(-101)", x.gain(-101), -2);
        checks.due("gain(101)", x.gain(101), -2);
        checks.due("K still", x.count(4), 1000);
        checks.due("gain(-100)", x.gain(-100), 1);
        checks.due("K", x.count(4), 900);
        checks.due("gain(100)", x.gain(100), 1);
        checks.due("K", x.count(4), 1100);
    }

    // Terms 1: "C is P plus K times Q, POWER by POWER."
    private static void extremesOfC() {
        SignTables x = Checks.reading("99s6-99+2s-K(99s6-99-s)");
        x.gain(-100);
        checks.due("the greatest", x.of(2, 6), 9999);
        checks.due("the least", x.of(2, 0), -9999);
        checks.due("of both", x.of(2, 1), -98);
        x.gain(1);
        checks.due("nothing is left", x.of(2, 6), 0);
        checks.due("nothing is left", x.of(2, 0), 0);
        checks.due("one is", x.of(2, 1), 3);
    }

    // Terms 1: "DEGREE of a polynomial: the greatest POWER of which it has not 0 (NONE: there is none)."
    private static void degreeOrNone() {
        checks.due("6", Checks.with(0, 0, 0, 0, 0, 0, -1).degree(0, 0), 6);
        checks.due("0", Checks.with(-1).degree(0, 0), 0);
        checks.due("none", Checks.with().degree(0, 0), -1);
        SignTables x = Checks.reading("s3+s+K(s3+s)");
        x.gain(-1);
        checks.due("none by K", x.degree(0, 0), -1);
    }

    // Terms 1: "0 PLAIN: C."
    private static void plain() {
        SignTables x = Checks.reading("99s6+99s5-99-K(99s6+99s5-99)");
        x.gain(-100);
        isForm(x, 0, -9999, 0, 0, 0, 0, 9999, 9999);
        x.gain(1);
        isForm(x, 0);
    }

    // Terms 1: "1 MIRROR: C, COEFFICIENTS of odd POWERS turned about (v becomes -v)."
    private static void mirrorTurnsOddOnes() {
        isForm(Checks.with(1, 2, 3, 4, 5, 6, 7), 1, 1, -2, 3, -4, 5, -6, 7);
        isForm(Checks.with(-1, -2, 0, 0, 0, -6), 1, -1, 2, 0, 0, 0, 6);
        isForm(Checks.with(8), 1, 8);
    }

    // Terms 1: "2 TURNED: of POWER i C's of POWER n - i."
    private static void turned() {
        isForm(Checks.with(1, 2, 3, 4, 5, 6, 7), 2, 7, 6, 5, 4, 3, 2, 1);
        isForm(Checks.with(1, 2, 3), 2, 3, 2, 1);
        isForm(Checks.with(0, 0, 0, 4), 2, 4);
        isForm(Checks.with(0, 2, 0, 0, 5), 2, 5, 0, 0, 2);
        isForm(Checks.with(9), 2, 9);
    }

    // Terms 1: "3 CIRCLE: over all POWERS i of C, COEFFICIENT i times (s and 1) to the i times (s less 1) to
    // the (n - i), together, as COEFFICIENTS of POWERS of s."
    private static void circle() {
        isForm(Checks.with(5), 3, 5);
        isForm(Checks.with(0, 1), 3, 1, 1);
        isForm(Checks.with(1, 0), 3, 1);
        isForm(Checks.with(2, 1), 3, -1, 3);
        isForm(Checks.with(0, 0, 0, 0, 0, 0, 1), 3, 1, 6, 15, 20, 15, 6, 1);
        isForm(Checks.with(1, 0, 0, 0, 0, 0, 1), 3, 2, 0, 30, 0, 30, 0, 2);
        isForm(Checks.with(-1, 1), 3, 2);
    }

    // Terms 1: "10 .. 50 SHIFT by a (a is the FORM less 30): C, with (s and a) for s."
    private static void shiftBounds() {
        SignTables x = Checks.with(0, 0, 1);
        isForm(x, 10, 400, -40, 1);
        isForm(x, 29, 1, -2, 1);
        isForm(x, 30, 0, 0, 1);
        isForm(x, 31, 1, 2, 1);
        isForm(x, 50, 400, 40, 1);
        checks.due("form(9, 0)", x.form(9, 0), Checks.NO);
        checks.due("form(51, 0)", x.form(51, 0), Checks.NO);
        isForm(Checks.with(-7), 50, -7);
        isForm(Checks.with(0, 0, 0, 0, 0, 0, 1), 50, 64000000, 19200000, 2400000, 160000, 6000, 120, 1);
    }

    // Terms 1: "LACKING of a FORM: n less its DEGREE"
    private static void lacking() {
        SignTables x = Checks.with(0, 0, 0, 4, 0, 0, 1);
        checks.due("TURNED ends with nothing", x.degree(2, 1), 3);
        checks.due("its DEGREE", x.degree(2, 0), 3);
        checks.due("CIRCLE lacks nothing", x.degree(3, 1), 0);
        x = Checks.with(-1, 3, -3, 1);
        checks.due("CIRCLE of three roots at 1", x.degree(3, 1), 3);
        checks.due("its DEGREE", x.degree(3, 0), 0);
        checks.due("TURNED lacks nothing", x.degree(2, 1), 0);
        checks.due("of DEGREE 0", Checks.with(4).degree(3, 1), 0);
    }

    // Terms 1: "(n and 1, if it has none;" (no C that has a DEGREE has such a FORM; longs that wrap round make one)
    private static void formOfNone() {
        if (!Inside.isOpen()) {
            return;
        }
        SignTables x = Inside.with(Long.MIN_VALUE, Long.MIN_VALUE);
        checks.due("of C", x.degree(0, 0), 1);
        checks.due("of CIRCLE", x.degree(3, 0), -1);
        checks.due("CIRCLE lacks", x.degree(3, 1), 2);
        checks.due("on the circle", x.roots(3, 4), 2);
        checks.due("within it", x.roots(3, 2), 0);
        checks.due("no row", x.caseOf(3, 0), -1);
    }

    // Terms 1: "FORMS of a C that has no DEGREE have none, LACKING 0"
    private static void formsWithoutDegree() {
        SignTables x = Checks.with();
        for (int form = 0; form <= 50; form++) {
            if (form < 4 || form > 9) {
                checks.due("degree(" + form + ", 0)", x.degree(form, 0), -1);
                checks.due("degree(" + form + ", 1)", x.degree(form, 1), 0);
                isForm(x, form);
            }
        }
    }

    // Promise 1: "P is 1 of POWER 1, Q is 0."
    private static void newObject() {
        SignTables x = new SignTables();
        x.gain(100);
        for (int power = 0; power < 7; power++) {
            checks.due("C", x.of(2, power), power == 1 ? 1 : 0);
        }
        checks.due("waiting", x.count(0), 0);
        checks.due("tape", x.count(1), 0);
        checks.due("texts", x.count(2), 0);
        checks.due("factors", x.count(5), 0);
    }

    // Promise 2: "The COEFFICIENT of a POWER of P (which 0), Q (1) becomes v: what it was."
    private static void setAnswersWhatItWas() {
        SignTables x = new SignTables();
        checks.due("P was", x.set(0, 1, -99), 1);
        checks.due("Q was", x.set(1, 1, 99), 0);
        checks.due("P was", x.set(0, 1, 0), -99);
        checks.due("Q was", x.set(1, 1, 0), 99);
        checks.due("P was nothing", x.set(0, 1, 0), 0);
    }

    // Promise 2: "NO: which, power, v."
    private static void setRefuses() {
        SignTables x = Checks.reading("5s2+3-K(2s6)");
        String before = Checks.stateOf(x);
        int[][] wrong = {{-1, 0, 0}, {2, 0, 0}, {0, -1, 0}, {1, -1, 0}, {0, 7, 0}, {1, 7, 0}, {0, 0, -100},
            {1, 0, -100}, {0, 0, 100}, {1, 6, 100}, {LEAST, 0, 0}, {MOST, 0, 0}, {0, LEAST, 0}, {0, MOST, 0},
            {0, 0, LEAST}, {0, 0, MOST}, {2, 7, 100}, {0, 7, 100}, {3, 0, 0}};
        for (int[] w : wrong) {
            checks.due("set(" + w[0] + ", " + w[1] + ", " + w[2] + ")", x.set(w[0], w[1], w[2]), Checks.NO);
        }
        checks.holds("nothing is changed", before.equals(Checks.stateOf(x)));
    }

    // Promise 3: "A COEFFICIENT of P (0), Q (1), C (2)."
    private static void ofThree() {
        SignTables x = Checks.reading("6s6+1+K(5s6+2)");
        x.gain(-3);
        int[][] due = {{0, 0, 1}, {0, 6, 6}, {1, 0, 2}, {1, 6, 5}, {2, 0, -5}, {2, 6, -9}, {2, 3, 0}};
        for (int[] d : due) {
            checks.due("of(" + d[0] + ", " + d[1] + ")", x.of(d[0], d[1]), d[2]);
        }
    }

    // Promise 3: "NO."
    private static void ofRefuses() {
        SignTables x = Checks.with(1, 1, 1, 1, 1, 1, 1);
        int[][] wrong = {{-1, 0}, {3, 0}, {0, -1}, {0, 7}, {1, -1}, {1, 7}, {2, -1}, {2, 7}, {LEAST, 0},
            {MOST, 0}, {0, LEAST}, {2, MOST}, {3, 7}};
        for (int[] w : wrong) {
            checks.due("of(" + w[0] + ", " + w[1] + ")", x.of(w[0], w[1]), Checks.NO);
        }
    }

    // Promise 4: "K becomes so: 1."
    private static void gainAnswers() {
        SignTables x = Checks.reading("s-K(s2)");
        for (int k : new int[] {-100, -1, 0, 1, 100}) {
            checks.due("gain(" + k + ")", x.gain(k), 1);
            checks.due("C by " + k, x.of(2, 2), -k);
        }
    }

    // Promise 4: "BAD."
    private static void gainRefuses() {
        SignTables x = Checks.reading("s+K(s2)");
        x.gain(7);
        for (int k : new int[] {-101, 101, LEAST, MOST}) {
            checks.due("gain(" + k + ")", x.gain(k), -2);
            checks.due("K stays", x.of(2, 2), 7);
        }
    }

    // Promise 7: "COEFFICIENT of a POWER (0 .. 6) of a FORM."
    private static void formPowers() {
        SignTables x = Checks.with(1, 2, 3);
        checks.due("power 0", x.form(0, 0), 1);
        checks.due("power 6 above its DEGREE", x.form(0, 6), 0);
        checks.due("power 6 of TURNED", x.form(2, 6), 0);
        checks.due("power 3 of SHIFT", x.form(10, 3), 0);
        x.set(0, 6, -4);
        checks.due("power 6", x.form(0, 6), -4);
        checks.due("power 6 of TURNED", x.form(2, 6), 1);
    }

    // Promise 7: "NO: form, power."
    private static void formRefuses() {
        SignTables x = Checks.with(1, 1, 1, 1, 1, 1, 1);
        int[][] wrong = {{-1, 0}, {4, 0}, {9, 0}, {51, 0}, {LEAST, 0}, {MOST, 0}, {0, -1}, {0, 7}, {3, -1},
            {3, 7}, {10, 7}, {50, -1}, {0, LEAST}, {50, MOST}, {4, 7}};
        for (int[] w : wrong) {
            checks.due("form(" + w[0] + ", " + w[1] + ")", x.form(w[0], w[1]), Checks.NO);
        }
    }

    // Promise 8: "What 0 DEGREE of a FORM (NONE), 1 LACKING."
    private static void degreeAnswers() {
        SignTables x = Checks.with(0, 1, 1);
        checks.due("TURNED", x.degree(2, 0), 1);
        checks.due("TURNED lacks", x.degree(2, 1), 1);
        checks.due("SHIFT by -20", x.degree(10, 0), 2);
        checks.due("SHIFT by 20 lacks", x.degree(50, 1), 0);
        checks.due("none", Checks.with().degree(2, 0), -1);
    }

    // Promise 8: "BAD: form, what."
    private static void degreeRefuses() {
        SignTables x = Checks.with(1, 1);
        int[][] wrong = {{-1, 0}, {4, 0}, {9, 1}, {51, 1}, {LEAST, 0}, {MOST, 0}, {0, -1}, {0, 2}, {3, LEAST},
            {50, MOST}, {4, 2}};
        for (int[] w : wrong) {
            checks.due("degree(" + w[0] + ", " + w[1] + ")", x.degree(w[0], w[1]), -2);
            checks.due("without DEGREE", Checks.with().degree(w[0], w[1]), -2);
        }
    }
}
