/** Boundary cases of steady gains and of their spans, a test for each sentence. */
public final class EdgesOfSteadyTest {
    private static final Checks checks = new Checks();
    private static final int LEAST = Integer.MIN_VALUE;
    private static final int MOST = Integer.MAX_VALUE;

    public static void main(String[] args) {
        degreeIsThatOfBoth();
        greatIsNotSteady();
        rightAndAxis();
        lackingByTheCircle();
        gainIsSteady();
        spansAreApart();
        edgeOfTheLast();
        edgeOfTheFirst();
        ownDegree();
        steadyAnswers();
        steadyRefuses();
        spansAnswers();
        spansRefuses();
        spanAnswers();
        spanRefuses();
        nearestAnswers();
        nearestRefuses();
        checks.end();
    }

    /** P and Q from power 0 on. */
    private static SignTables of(int[] p, int... q) {
        SignTables x = Checks.with(p);
        for (int i = 0; i < q.length; i++) {
            x.set(1, i, q[i]);
        }
        return x;
    }

    private static int[] p(int... p) {
        return p;
    }

    private static void isSpan(SignTables x, int kind, int i, int first, int last, int firstEdge, int lastEdge) {
        int[] due = {first + 1000, last + 1000, firstEdge + 10000, lastEdge + 10000, last - first + 1};
        for (int what = 0; what < 5; what++) {
            checks.due("span(" + kind + ", " + i + ", " + what + ")", x.span(kind, i, what), due[what]);
        }
    }

    // Terms 3: "its DEGREE is the greatest POWER of which P or Q has not 0, 1 or more;"
    private static void degreeIsThatOfBoth() {
        checks.due("of DEGREE 1", of(p(1, 1)).steady(0, 1, 0), 1);
        checks.due("of DEGREE 0", of(p(5)).steady(0, 1, 0), 0);
        checks.due("of DEGREE 0", of(p(5), 1).steady(1, 1, 1), 0);
        checks.due("without DEGREE", of(p()).steady(0, 1, 0), 0);
        checks.due("without DEGREE", of(p()).steady(1, 16, 1600), 0);
        checks.due("P is of less", of(p(1, 1), 0, 0, 1).steady(0, 1, 0), 0);
        checks.due("P is of less", of(p(1, 1), 0, 0, 1).steady(0, 1, 1), 1);
        checks.due("Q alone", of(p(), 1, 1).steady(0, 1, 0), 0);
        checks.due("Q alone", of(p(), 1, 1).steady(0, 1, -1), 1);
        checks.due("what is highest goes", of(p(1, 1, 2), 0, 0, 1).steady(0, 1, -2), 0);
        checks.due("by parts", of(p(1, 1, 2), 0, 0, 16).steady(0, 16, -2), 0);
        checks.due("all goes", of(p(1, 1), 1, 1).steady(0, 1, -1), 0);
    }

    // Terms 3: "SIGN ROWS (0 PLAIN, 1 CIRCLE) aren't GREAT;"
    private static void greatIsNotSteady() {
        SignTables x = of(p(98, 35, 41, 59, 48, 82, 4), 4, 6, 57, 50, 19, 9, 1);
        isGreatOnly(x, 0, 95);
        x = of(p(22, 40, 38, 14, 61, 33, 85), 70, 61, 77, 48, 74, 48, 99);
        isGreatOnly(x, 1, 90);
        // By the line CIRCLE may be GREAT, by the circle PLAIN may.
        x = of(p(2, 49, 50, 61, 77, 88), 5, 6, 51, 59, 86, 89);
        isGreatOnly(x, 1, 100);
        checks.due("by the line all the same", x.steady(0, 1, 100), 1);
        x = of(p(25, 46, 67, 80, 83, 86, 89), 4, 15, 31, 38, 58, 58, 77);
        x.gain(100);
        checks.due("PLAIN is great", x.roots(0, 0), -7);
        checks.due("by the circle all the same", x.steady(1, 1, 100), 1);
        // By parts, too, though by whole numbers no SIGN ROWS are.
        x = of(p(13, 14, 26, 88, 67, 78), 7, 36, 98, 90, 86, 14);
        checks.due("by parts", x.steady(0, 16, 1210), 0);
        // All gains one behind the other, so that rows of the last one may be left where those of the next break off.
        eachGain(p(98, 35, 41, 59, 48, 82, 4), p(4, 6, 57, 50, 19, 9, 1), 0);
        eachGain(p(22, 40, 38, 14, 61, 33, 85), p(70, 61, 77, 48, 74, 48, 99), 1);
        eachGain(p(-98, -35, -41, -59, -48, -82, -4), p(-4, -6, -57, -50, -19, -9, -1), 0);
        eachGain(p(-22, -40, -38, -14, -61, -33, -85), p(-70, -61, -77, -48, -74, -48, -99), 1);
    }

    private static void eachGain(int[] p, int[] q, int kind) {
        SignTables x = of(p, q);
        int form = kind == 0 ? 0 : 3;
        int great = 0;
        for (int k = -100; k <= 100; k++) {
            x.gain(k);
            boolean left = Polys.allLeft(Polys.form(x, form)) && x.degree(form, 1) == 0;
            boolean isGreat = x.roots(form, 0) == -7;
            great += left && isGreat ? 1 : 0;
            checks.due("steady by " + k, x.steady(kind, 1, k), left && !isGreat ? 1 : 0);
        }
        checks.holds("some are great alone", great > 0);
    }

    // All roots lie as they should, but the SIGN ROWS are GREAT.
    private static void isGreatOnly(SignTables x, int kind, int k) {
        x.gain(k);
        int form = kind == 0 ? 0 : 3;
        checks.due("great by " + k, x.roots(form, 0), -7);
        checks.due("it lacks nothing", x.degree(form, 1), 0);
        checks.holds("all are left", Polys.allLeft(Polys.form(x, form)));
        checks.due("not steady by " + k, x.steady(kind, 1, k), 0);
    }

    // Terms 3: "RIGHT and AXIS are 0"
    private static void rightAndAxis() {
        checks.due("all left", of(p(2, 3, 1)).steady(0, 1, 0), 1);
        checks.due("one right", of(p(-2, 1, 1)).steady(0, 1, 0), 0);
        checks.due("one at 0", of(p(0, 1, 1)).steady(0, 1, 0), 0);
        checks.due("a pair on the axis", of(p(1, 1, 1, 1)).steady(0, 1, 0), 0);
        checks.due("a pair on the circle", of(p(1, 0, 1)).steady(1, 1, 0), 0);
        checks.due("one at -1", of(p(1, 1)).steady(1, 1, 0), 0);
        checks.due("one out of the circle", of(p(2, 1)).steady(1, 1, 0), 0);
        checks.due("all within", of(p(1, 2)).steady(1, 1, 0), 1);
        checks.due("all at 0", of(p(0, 0, 0, 1)).steady(1, 1, 0), 1);
    }

    // Terms 3: "by KIND 1 LACKING, too."
    private static void lackingByTheCircle() {
        SignTables x = of(p(-1, 1));
        checks.due("right of it", x.roots(3, 0), 0);
        checks.due("on its axis", x.roots(3, 1), 0);
        checks.due("lacking", x.degree(3, 1), 1);
        checks.due("one at 1", x.steady(1, 1, 0), 0);
        checks.due("one at 1, one within", of(p(0, -1, 1)).steady(1, 1, 0), 0);
        checks.due("two at 1", of(p(1, -2, 1)).steady(1, 1, 0), 0);
        checks.due("the line has no such", of(p(1, 1)).steady(0, 1, 0), 1);
    }

    // Terms 3: "K is STEADY: u 1, v K."
    private static void gainIsSteady() {
        // s, 99 and K: the root is left for K above -99.
        SignTables x = of(p(99, 1), 1);
        checks.due("-99", x.steady(0, 1, -99), 0);
        checks.due("-98", x.steady(0, 1, -98), 1);
        checks.due("the first span", x.span(0, 0, 0), 902);
        x.await(-99);
        x.await(-98);
        checks.due("weeded", x.weed(0, 0), 1);
        checks.due("stays", x.waiting(0), 902);
    }

    // Terms 3: "SPANS of a KIND: all K from -100 to 100 that are STEADY, those next to each other in one SPAN, the
    // least first."
    private static void spansAreApart() {
        // All but -1, by which nothing is left.
        SignTables x = of(p(1, 1), 1, 1);
        checks.due("two, one gain apart", x.spans(0), 2);
        isSpan(x, 0, 0, -100, -2, -1600, -17);
        isSpan(x, 0, 1, 0, 100, -15, 1600);
        x = of(p(1, 1));
        checks.due("all in one", x.spans(0), 1);
        isSpan(x, 0, 0, -100, 100, -1600, 1600);
        checks.due("none", of(p(-1, 1)).spans(0), 0);
        // 100 alone, -100 alone, 0 alone.
        x = of(p(-99, 1), 1);
        checks.due("100 alone", x.spans(0), 1);
        isSpan(x, 0, 0, 100, 100, 1585, 1600);
        x = of(p(-99, 1), -1);
        checks.due("-100 alone", x.spans(0), 1);
        isSpan(x, 0, 0, -100, -100, -1600, -1585);
        x = of(p(0, 1), 1);
        checks.due("0 alone", x.spans(1), 1);
        isSpan(x, 1, 0, 0, 0, -15, 15);
    }

    // Terms 3: "EDGES: of the last K of a SPAN: 1600, if it is 100; else LOW is 16 K, HIGH 16 (K and 1), 4 times:
    // MIDDLE is half of LOW and HIGH; LOW is MIDDLE, if u 16, v MIDDLE are STEADY, else HIGH is: LOW."
    private static void edgeOfTheLast() {
        checks.due("100", of(p(1, 1), 1).span(0, 0, 3), 11600);
        checks.due("98, all parts are steady", of(p(99, 1), -1).span(0, 0, 3), 10000 + 16 * 98 + 15);
        checks.due("all parts are steady", of(p(1, 1), -1).span(0, 0, 3), 10015);
        checks.due("no part is", of(p(1, 1), -99).span(0, 0, 3), 10000);
        checks.due("below 0", of(p(-5, 1), -1).span(0, 0, 3), 10000 - 81);
        // Parts that are steady lie behind some that are not: halves lead there, one by one they would not.
        isEdge(of(p(-3, -5, -6, -9, -1), 7, 6, 8, -4, 1), 0, 6, 0, 0);
        isEdge(of(p(5, 3, 2, 1), -8, -3, 7, 8), 0, 9, 0, 1);
        isEdge(of(p(3, -2, -3, -6), -8, -6, -7, 5), 1, 9, 0, 4);
    }

    // The last K, its edge, and how far one by one leads.
    private static void isEdge(SignTables x, int kind, int edge, int last, int oneByOne) {
        for (int i = 0; i < x.spans(kind); i++) {
            if (x.span(kind, i, 1) == last + 1000) {
                checks.due("edge of the last", x.span(kind, i, 3), edge + 10000);
                checks.due("one by one it is steady", x.steady(kind, 16, oneByOne), 1);
                checks.due("and then not", x.steady(kind, 16, oneByOne + 1), 0);
                return;
            }
        }
        checks.holds("there is a span that ends with " + last, false);
    }

    // Terms 3: "Of the first K: -1600, if it is -100; else LOW is 16 (K less 1), HIGH 16 K, 4 times: HIGH is
    // MIDDLE, if that is STEADY so, else LOW is: HIGH."
    private static void edgeOfTheFirst() {
        checks.due("-100", of(p(1, 1), -1).span(0, 0, 2), 8400);
        checks.due("-98", of(p(99, 1), 1).span(0, 0, 2), 10000 - 16 * 98 - 15);
        checks.due("all parts are steady", of(p(1, 1), 1).span(0, 0, 2), 10000 - 15);
        checks.due("no part is", of(p(1, 1), 99).span(0, 0, 2), 10000);
        checks.due("above 0", of(p(-5, 1), 1).span(0, 0, 2), 10000 + 81);
        SignTables x = of(p(-6, -3, 0, 3), 3, -5, -2, -8);
        checks.due("the first", x.span(0, 0, 0), 1001);
        checks.due("halves lead farther than one by one", x.span(0, 0, 2), 10007);
        checks.due("one by one", x.steady(0, 16, 14), 0);
        x = of(p(2, -4, 4, 0, 7), 5, -4, 4, -7, 5);
        checks.due("the first", x.span(1, 0, 0), 1000);
        checks.due("halves lead farther than one by one", x.span(1, 0, 2), 9990);
        checks.due("one by one", x.steady(1, 16, -4), 0);
    }

    // In doubt: "STEADY is only a C whose own DEGREE is that of P and Q together."
    private static void ownDegree() {
        SignTables x = of(p(1, 1), 0, 0, 1);
        checks.due("C alone would be", of(p(1, 1)).steady(0, 1, 0), 1);
        checks.due("Q has more", x.steady(0, 1, 0), 0);
        checks.due("it is no span's", x.span(0, 0, 0), 1001);
        x = of(p(3, 4, 1), 0, 0, 1);
        checks.due("-1 alone is lost", x.steady(0, 1, -1), 0);
        checks.due("15 parts of it are not", x.steady(0, 16, -15), 1);
    }

    // Promise 15: "1 STEADY, 0 not."
    private static void steadyAnswers() {
        SignTables x = of(p(1, 1), 1);
        checks.due("u 1, v -1600", x.steady(0, 1, -1600), 0);
        checks.due("u 1, v 1600", x.steady(0, 1, 1600), 1);
        checks.due("u 16, v -16", x.steady(0, 16, -16), 0);
        checks.due("u 16, v -15", x.steady(0, 16, -15), 1);
        x.gain(-50);
        checks.due("K does not matter", x.steady(0, 1, 0), 1);
    }

    // Promise 15: "BAD: kind, u (1 .. 16), v (-1600 .. 1600)."
    private static void steadyRefuses() {
        SignTables x = of(p(1, 2));
        int[][] wrong = {{-1, 1, 0}, {2, 1, 0}, {LEAST, 1, 0}, {MOST, 1, 0}, {0, 0, 0}, {0, -1, 0}, {0, 17, 0},
            {1, LEAST, 0}, {1, MOST, 0}, {0, 1, -1601}, {0, 1, 1601}, {1, 1, LEAST}, {1, 1, MOST}, {2, 17, 1601}};
        for (int[] w : wrong) {
            checks.due("steady(" + w[0] + ", " + w[1] + ", " + w[2] + ")", x.steady(w[0], w[1], w[2]), -2);
        }
        int[][] right = {{0, 1, 0}, {1, 1, 0}, {0, 16, 0}, {0, 1, -1600}, {0, 16, 1600}};
        for (int[] r : right) {
            checks.due("steady(" + r[0] + ", " + r[1] + ", " + r[2] + ")", x.steady(r[0], r[1], r[2]), 1);
        }
    }

    // Promise 16: "How many SPANS."
    private static void spansAnswers() {
        checks.due("none", of(p(5)).spans(0), 0);
        checks.due("none", of(p()).spans(1), 0);
        checks.due("one", of(p(1, 2)).spans(1), 1);
        checks.due("two", of(p(1, 1), 1, 1).spans(0), 2);
        checks.due("of the other kind", of(p(1, 1), 1, 1).spans(1), 0);
    }

    // Promise 16: "BAD."
    private static void spansRefuses() {
        for (int kind : new int[] {-1, 2, LEAST, MOST}) {
            checks.due("spans(" + kind + ")", of(p(1, 2)).spans(kind), -2);
        }
    }

    // Promise 17: "Of a SPAN what 0 the first K and 1000, 1 the last K and 1000, 2 the EDGE of the first and 10000,
    // 3 of the last and 10000, 4 how many K."
    private static void spanAnswers() {
        isSpan(of(p(1, 2)), 0, 0, -100, 100, -1600, 1600);
        isSpan(of(p(1, 2)), 1, 0, -100, 100, -1600, 1600);
        isSpan(of(p(-99, 1), 1), 0, 0, 100, 100, 1585, 1600);
        isSpan(of(p(0, 2), 1), 1, 0, -1, 1, -31, 31);
    }

    // Promise 17: "BAD: kind, what; NONE: i."
    private static void spanRefuses() {
        SignTables x = of(p(1, 1), 1, 1);
        for (int kind : new int[] {-1, 2, LEAST, MOST}) {
            checks.due("kind " + kind, x.span(kind, 0, 0), -2);
            checks.due("kind " + kind + ", i", x.span(kind, 2, 0), -2);
        }
        for (int what : new int[] {-1, 5, LEAST, MOST}) {
            checks.due("what " + what, x.span(0, 0, what), -2);
            checks.due("what " + what + ", i", x.span(0, -1, what), -2);
            checks.due("what " + what + ", no span", of(p(5)).span(0, 0, what), -2);
        }
        for (int i : new int[] {-1, 2, LEAST, MOST}) {
            checks.due("i " + i, x.span(0, i, 0), -1);
        }
        checks.due("no span", x.span(1, 0, 4), -1);
    }

    // Promise 18: "The number of the SPAN that has K = k or is nearest to it, of two the lesser (NONE: there are
    // none)."
    private static void nearestAnswers() {
        SignTables x = of(p(1, 1), 1, 1);
        checks.due("its first", x.nearest(0, -100), 0);
        checks.due("its last", x.nearest(0, -2), 0);
        checks.due("as near to both", x.nearest(0, -1), 0);
        checks.due("its first", x.nearest(0, 0), 1);
        checks.due("its last", x.nearest(0, 100), 1);
        checks.due("none", x.nearest(1, 0), -1);
        // Spans to -6 and from 0: -4 and -3 are nearer to one, or as near to both; -2 is nearer to the second.
        x = of(p(2, 3), 0, 1);
        isSpan(x, 1, 0, -100, -6, -1600, -81);
        isSpan(x, 1, 1, 0, 100, -15, 1600);
        int[] due = {0, 0, 0, 1, 1};
        for (int k = -5; k < 0; k++) {
            checks.due("nearest to " + k, x.nearest(1, k), due[k + 5]);
        }
        checks.due("far from the only one", of(p(-99, 1), 1).nearest(0, -100), 0);
    }

    // Promise 18: "BAD: kind, k (-100 .. 100)."
    private static void nearestRefuses() {
        SignTables x = of(p(1, 1));
        for (int kind : new int[] {-1, 2, LEAST, MOST}) {
            checks.due("kind " + kind, x.nearest(kind, 0), -2);
        }
        for (int k : new int[] {-101, 101, LEAST, MOST}) {
            checks.due("k " + k, x.nearest(0, k), -2);
        }
        checks.due("k -100", x.nearest(0, -100), 0);
        checks.due("k 100", x.nearest(0, 100), 0);
    }
}
