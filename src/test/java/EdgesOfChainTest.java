/** Boundary cases of the chain, a test for each sentence. */
public final class EdgesOfChainTest {
    private static final Checks checks = new Checks();
    private static final int LEAST = Integer.MIN_VALUE;
    private static final int MOST = Integer.MAX_VALUE;

    public static void main(String[] args) {
        leastDegree();
        firstTwoLinks();
        asLongAsDegreeIsNoLess();
        sizeOfTheHighest();
        turnedAboutFirst();
        whatIsLeftTurnedAbout();
        untilNothingIsLeft();
        dividedByTheGreatest();
        noughtsLeftOut();
        greatLinks();
        leastLong();
        greatValues();
        linksAnswers();
        linksRefuses();
        linkAnswers();
        linkRefuses();
        chainAnswers();
        chainRefuses();
        realAnswers();
        realRefuses();
        checks.end();
    }

    private static void isLink(SignTables x, int i, long... due) {
        for (int power = 0; power < 7; power++) {
            checks.due("link(" + i + ", " + power + ")", x.link(i, power), power < due.length ? due[power] : 0);
        }
    }

    /** Its CHAIN is GREAT. */
    private static SignTables great() {
        return Checks.with(98, 97, 93, -95, 89, -99, 99);
    }

    // Terms 4: "CHAIN of C (DEGREE 1 or more)"
    private static void leastDegree() {
        checks.due("without DEGREE", Checks.with().links(), -2);
        checks.due("of DEGREE 0", Checks.with(9).links(), -2);
        checks.due("of DEGREE 1", Checks.with(9, 9).links(), 2);
        SignTables x = Checks.reading("9+s+K(s)");
        x.gain(-1);
        checks.due("of DEGREE 0 by K", x.links(), -2);
        x.gain(-2);
        checks.due("of DEGREE 1 by K", x.links(), 2);
    }

    // Terms 4: "LINK 0 is C, LINK 1: of POWER i (i and 1) times C's of POWER i + 1."
    private static void firstTwoLinks() {
        SignTables x = Checks.with(1, 1, 1, 1, 1, 1, 1);
        isLink(x, 0, 1, 1, 1, 1, 1, 1, 1);
        isLink(x, 1, 1, 2, 3, 4, 5, 6);
        x = Checks.with(-5, -3);
        isLink(x, 0, -5, -3);
        isLink(x, 1, -1);
        x = Checks.with(5, 0, 0, 0, 0, 0, -3);
        isLink(x, 0, 5, 0, 0, 0, 0, 0, -3);
        isLink(x, 1, 0, 0, 0, 0, 0, -1);
    }

    // Terms 4: "as long as DEGREE of A is no less than that of B"
    private static void asLongAsDegreeIsNoLess() {
        // s s s and 1: once s s s is gone, 1 is of less than s s.
        SignTables x = Checks.with(1, 0, 0, 1);
        isLink(x, 2, -1);
        checks.due("links", x.links(), 3);
        // s s s and s s: s s s goes, and s s that is left goes, too.
        x = Checks.with(0, 1, 1, 1);
        isLink(x, 1, 1, 2, 3);
        isLink(x, 2, 1, -4);
        isLink(x, 3, -1);
        checks.due("links", x.links(), 4);
    }

    // Terms 4: "all COEFFICIENTS of A times the size of B's highest;"
    private static void sizeOfTheHighest() {
        isLink(Checks.with(-1, 0, 1), 2, 1);
        isLink(Checks.with(1, 0, -1), 2, -1);
        isLink(Checks.with(1, 0, 1), 2, -1);
        isLink(Checks.with(-1, 0, -1), 2, 1);
        // 3 times (-s s s and s and 1) and s times (3 s s less 1): 2 s and 3, turned about.
        isLink(Checks.with(1, 1, 0, -1), 2, -3, -2);
    }

    // Terms 4: "less A's highest (as it was ahead of that) times B's of POWER i, turned about first, if B's highest
    // is below 0;"
    private static void turnedAboutFirst() {
        // -s s less s and 3, B is -2 s less 1: what is left is -s and 6 first, then 13.
        isLink(Checks.with(3, -1, -1), 2, -1);
        isLink(Checks.with(-3, -1, -1), 2, 1);
        isLink(Checks.with(3, 1, 1), 2, -1);
        isLink(Checks.with(-3, 1, 1), 2, 1);
        isLink(Checks.with(-6, 11, -6, 1), 2, -2, 1);
        isLink(Checks.with(6, -11, 6, -1), 2, 2, -1);
    }

    // Terms 4: "what is left, turned about, is the next LINK, if it has a DEGREE."
    private static void whatIsLeftTurnedAbout() {
        SignTables x = Checks.with(-2, 0, 0, 1);
        isLink(x, 2, 1);
        checks.due("links", x.links(), 3);
        x = Checks.with(2, 0, 0, 1);
        isLink(x, 2, -1);
        checks.due("links", x.links(), 3);
    }

    // Terms 4: "if it has a DEGREE."
    private static void untilNothingIsLeft() {
        checks.due("nothing of DEGREE 1", Checks.with(-2, 1).links(), 2);
        checks.due("two roots in one", Checks.with(1, -2, 1).links(), 2);
        checks.due("six in one", Checks.with(1, 6, 15, 20, 15, 6, 1).links(), 2);
        checks.due("two and one", Checks.with(2, -3, 0, 1).links(), 3);
        checks.due("0 alone is left of none", Checks.with(0, 0, 0, 4).links(), 2);
        checks.due("link(2, 0)", Checks.with(1, -2, 1).link(2, 0), Checks.NO);
    }

    // Terms 4: "Each LINK is divided by the greatest number that divides all its COEFFICIENTS, as soon as it is told."
    private static void dividedByTheGreatest() {
        SignTables x = Checks.with(-99, 0, 99);
        isLink(x, 0, -1, 0, 1);
        isLink(x, 1, 0, 1);
        isLink(x, 2, 1);
        x = Checks.with(4, -8);
        isLink(x, 0, 1, -2);
        isLink(x, 1, -1);
        x = Checks.with(0, 0, 0, 0, 0, 0, -7);
        isLink(x, 0, 0, 0, 0, 0, 0, 0, -1);
        isLink(x, 1, 0, 0, 0, 0, 0, -1);
    }

    // Terms 4: "CHANGES of the CHAIN at x: how often two of the values of LINKS at x that follow each other (0s left
    // out) have unlike signs."
    private static void noughtsLeftOut() {
        // s s less 1, s, 1.
        SignTables x = Checks.with(-1, 0, 1);
        checks.due("1, -1, 1", x.chain(-2), 2);
        checks.due("0, -1, 1", x.chain(-1), 1);
        checks.due("-1, 0, 1", x.chain(0), 1);
        checks.due("0, 1, 1", x.chain(1), 0);
        checks.due("3, 2, 1", x.chain(2), 0);
        // s s and 1, s, -1.
        x = Checks.with(1, 0, 1);
        checks.due("1, 0, -1", x.chain(0), 1);
        // All of them are 0 where two roots are one.
        x = Checks.with(4, -4, 1);
        checks.due("0, 0", x.chain(2), 0);
        checks.due("below it", x.chain(1), 1);
        checks.due("above it", x.chain(3), 0);
    }

    // Terms 4: "(Longs; GREAT likewise." (a product, a difference that is none)
    private static void greatLinks() {
        checks.due("a product", great().links(), -7);
        SignTables x = Checks.with(28, 1, 18, 35);
        int[] q = {-27, 34, 7, 89};
        for (int i = 0; i < 4; i++) {
            x.set(1, i, q[i]);
        }
        x.gain(37);
        checks.due("a difference of products that are some", x.links(), -7);
        x.gain(1);
        checks.due("by less", x.links(), 4);
        if (!Inside.isOpen()) {
            return;
        }
        // 4 times -1.25 times 10 to the 18, less a square of 4.99 times 10 to the 18.
        checks.due("a difference", Inside.with(-1250000000000000000L, 2236067977L, 1).links(), -7);
        checks.due("a lesser one", Inside.with(-1000000000000000000L, 2036067977L, 1).links(), 3);
        checks.due("a product", Inside.with(1L << 61, 1, 1).links(), -7);
        checks.due("half of it", Inside.with(1L << 60, 1, 1).links(), 3);
    }

    // Terms 4: "GREAT likewise." (the least long)
    private static void leastLong() {
        if (!Inside.isOpen()) {
            return;
        }
        // 4 times -(2 to the 61), and 1.
        checks.due("the least long", Inside.with(-(1L << 61), 1, -1).links(), -7);
        checks.due("one less far", Inside.with(1 - (1L << 61), 1, -1).links(), 3);
    }

    // Terms 4: "A value: highest COEFFICIENT; times x and the next one, and so on.)" (no polynomial within the
    // document's limits is known to have such a value)
    private static void greatValues() {
        long a = 1L << 62;
        if (!Inside.isOpen()) {
            return;
        }
        SignTables x = Inside.with(1, a);
        checks.due("a product", x.chain(20), -7);
        checks.due("another", x.chain(-2), -7);
        checks.due("by 1", x.chain(1), 0);
        checks.due("by -1", x.chain(-1), 1);
        checks.due("at a", x.real(-2, 1), -7);
        checks.due("at b", x.real(-1, 2), -7);
        checks.due("at neither", x.real(-1, 1), 101);
        checks.due("the links are not", x.links(), 2);
        // Once it is none, what comes behind makes none of it again.
        x = Inside.with(1, 0, (1L << 61) + 1);
        checks.due("the first of two products", x.chain(20), -7);
        checks.due("the first of two products", x.chain(-19), -7);
        checks.due("neither", x.chain(0), 1);
        x = Inside.with(a + 1, a);
        checks.due("a sum", x.chain(1), -7);
        checks.due("a lesser one", x.chain(0), 0);
        x = Inside.with(1 - a, -1 - a);
        checks.due("the least long", x.chain(1), -7);
        x = Inside.with(2 - a, -1 - a);
        checks.due("one less far", x.chain(1), 0);
    }

    // Promise 19: "How many LINKS the CHAIN has."
    private static void linksAnswers() {
        checks.due("the least", Checks.with(0, 1).links(), 2);
        checks.due("the most", Checks.with(36, 0, -49, 0, 14, 0, -1).links(), 7);
        checks.due("of six roots in one", Checks.with(0, 0, 0, 0, 0, 0, 1).links(), 2);
    }

    // Promise 19: "BAD: C has no DEGREE, DEGREE 0; GREAT."
    private static void linksRefuses() {
        checks.due("without DEGREE", Checks.with().links(), -2);
        checks.due("of DEGREE 0", Checks.with(-99).links(), -2);
        checks.due("of DEGREE 1", Checks.with(-99, 1).links(), 2);
        SignTables x = great();
        checks.due("great", x.links(), -7);
        x.set(0, 6, 0);
        x.set(0, 5, 0);
        x.set(0, 4, 0);
        checks.due("great no more", x.links(), 4);
    }

    // Promise 20: "A COEFFICIENT of a LINK."
    private static void linkAnswers() {
        SignTables x = Checks.with(-1, 0, 1);
        checks.due("the first", x.link(0, 0), -1);
        checks.due("the last", x.link(2, 0), 1);
        checks.due("above its DEGREE", x.link(2, 6), 0);
        checks.due("above its DEGREE", x.link(0, 3), 0);
        checks.due("of POWER 6", Checks.with(0, 0, 0, 0, 0, 0, 5).link(0, 6), 1);
    }

    // Promise 20: "NO: as links() BAD, GREAT; i, power."
    private static void linkRefuses() {
        checks.due("without DEGREE", Checks.with().link(0, 0), Checks.NO);
        checks.due("of DEGREE 0", Checks.with(5).link(0, 0), Checks.NO);
        checks.due("great", great().link(0, 0), Checks.NO);
        checks.due("great", great().link(1, 0), Checks.NO);
        SignTables x = Checks.with(-1, 0, 1);
        int[][] wrong = {{-1, 0}, {3, 0}, {6, 0}, {7, 0}, {LEAST, 0}, {MOST, 0}, {0, -1}, {0, 7}, {2, LEAST},
            {2, MOST}, {3, 7}};
        for (int[] w : wrong) {
            checks.due("link(" + w[0] + ", " + w[1] + ")", x.link(w[0], w[1]), Checks.NO);
        }
    }

    // Promise 21: "CHANGES of the CHAIN at x (-20 .. 20)."
    private static void chainAnswers() {
        checks.due("at -20", Checks.with(20, 1).chain(-20), 0);
        checks.due("at -20", Checks.with(19, 1).chain(-20), 1);
        checks.due("at 20", Checks.with(-20, 1).chain(20), 0);
        checks.due("at 20", Checks.with(-21, 1).chain(20), 1);
        checks.due("the most", Checks.with(36, 0, -49, 0, 14, 0, -1).chain(-20), 6);
    }

    // Promise 21: "BAD: x, as links(); GREAT."
    private static void chainRefuses() {
        for (int x : new int[] {-21, 21, LEAST, MOST}) {
            checks.due("chain(" + x + ")", Checks.with(1, 1).chain(x), -2);
            checks.due("great chain(" + x + ")", great().chain(x), -2);
        }
        checks.due("without DEGREE", Checks.with().chain(0), -2);
        checks.due("of DEGREE 0", Checks.with(3).chain(20), -2);
        checks.due("great", great().chain(0), -7);
        checks.due("great", great().chain(-20), -7);
    }

    // Promise 22: "CHANGES of the CHAIN at a less those at b, and 100."
    private static void realAnswers() {
        SignTables x = Checks.with(-2, 1, 1);
        checks.due("both", x.real(-20, 20), 102);
        checks.due("a root at a is none", x.real(-2, 0), 100);
        checks.due("a root at b is one", x.real(0, 1), 101);
        checks.due("none", x.real(2, 3), 100);
        checks.due("two in one are one", Checks.with(1, -2, 1).real(0, 2), 101);
        // Where two are one all values are 0, which is less than what is behind it.
        checks.due("two in one at a", Checks.with(0, 0, 1, -2, 1).real(1, 2), 100);
    }

    // Promise 22: "BAD: a, b, b not above a, as links(); GREAT."
    private static void realRefuses() {
        int[][] wrong = {{-21, 0}, {21, 22}, {0, 21}, {-20, -21}, {0, 0}, {20, 20}, {1, 0}, {20, -20}, {LEAST, 0},
            {0, MOST}, {LEAST, MOST}, {MOST, LEAST}};
        for (int[] w : wrong) {
            checks.due("real(" + w[0] + ", " + w[1] + ")", Checks.with(0, 1).real(w[0], w[1]), -2);
            checks.due("great real(" + w[0] + ", " + w[1] + ")", great().real(w[0], w[1]), -2);
        }
        checks.due("real(-20, 20)", Checks.with(0, 1).real(-20, 20), 101);
        checks.due("real(-20, -19)", Checks.with(0, 1).real(-20, -19), 100);
        checks.due("real(19, 20)", Checks.with(0, 1).real(19, 20), 100);
        checks.due("without DEGREE", Checks.with().real(0, 1), -2);
        checks.due("of DEGREE 0", Checks.with(3).real(0, 1), -2);
        checks.due("great", great().real(-20, 20), -7);
    }
}
