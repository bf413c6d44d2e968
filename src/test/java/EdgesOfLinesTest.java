import java.math.BigInteger;
import java.util.List;

/** Boundary cases of strips and of the reach, a test for each sentence. */
public final class EdgesOfLinesTest {
    private static final Checks checks = new Checks();
    private static final int LEAST = Integer.MIN_VALUE;
    private static final int MOST = Integer.MAX_VALUE;

    public static void main(String[] args) {
        reachBounds();
        cutTowardsNought();
        leftIsDegree();
        reachOfNone();
        stripLeavesOutItsLines();
        stripWithoutDegree();
        stripBounds();
        stripRefuses();
        reachAnswers();
        reachRefuses();
        checks.end();
    }

    /** P and Q from power 0 on, by the gain 100. */
    private static SignTables by100(int[] p, int[] q) {
        SignTables x = Checks.with(p);
        for (int i = 0; i < q.length; i++) {
            x.set(1, i, q[i]);
        }
        x.gain(100);
        return x;
    }

    // By numbers of any size, not as the program tells it.
    private static boolean isGreat(SignTables x, int a) {
        List<BigInteger> c = Polys.form(x, 30 + a);
        try {
            return new Polys.Rows(c).rows.isEmpty();
        } catch (Polys.TooGreat e) {
            return true;
        }
    }

    // Terms 3: "REACH: LOW is -21, HIGH 21; as long as they are more than 1 apart"
    private static void reachBounds() {
        for (int root = -99; root <= 99; root++) {
            int due = root < -20 ? 980 : root > 19 ? -1 : root + 1001;
            checks.due("reach of " + root, Checks.with(-root, 1).reach(), due);
        }
        for (int root = -20; root < 20; root++) {
            checks.due("half above " + root, Checks.with(-2 * root - 1, 2).reach(), root + 1001);
        }
    }

    // Terms 3: "MIDDLE is half of LOW plus HIGH, cut towards 0;"
    private static void cutTowardsNought() {
        // All lie left of 0. -10 is looked at, not -11: which is GREAT is seen in the answer.
        SignTables x = by100(new int[] {87, 52, 99, 3, 70, 25}, new int[] {1, 10, 6, 6, 1});
        checks.holds("-11 is great", isGreat(x, -11));
        checks.due("-10 is looked at", x.reach(), 1000);
        x = by100(new int[] {24, 14, 93, 15, 65, 14}, new int[] {6, 11, 7, 3});
        checks.holds("-10 is great", isGreat(x, -10));
        checks.holds("-11 is not", !isGreat(x, -11));
        checks.due("-10 is looked at", x.reach(), -7);
        // Above 0 it is cut, too: never the greater of two.
        x = Checks.with(67, 94, -71, 33, -79, 30, -76);
        int[] q = {-40, -6, 73, 75, -69, -44, 75};
        for (int i = 0; i < 7; i++) {
            x.set(1, i, q[i]);
        }
        x.gain(1);
        checks.holds("11 is great", isGreat(x, 11));
        checks.due("10 is looked at", x.reach(), 1002);
    }

    // Terms 3: "HIGH is MIDDLE, if LEFT of SHIFT by MIDDLE is DEGREE of C, else LOW is: HIGH;"
    private static void leftIsDegree() {
        // A root on the line is not left of it.
        checks.due("on 3", Checks.with(-3, 1).reach(), 1004);
        checks.due("a pair on 3", Checks.with(13, -6, 1).reach(), 1004);
        checks.due("on 0 and left", Checks.with(0, 1, 1).reach(), 1001);
        checks.due("one is farther right than all others", Checks.with(-36, 0, -5, 0, 1).reach(), 1004);
        checks.due("of DEGREE 5", Checks.with(32, 80, 80, 40, 10, 1).reach(), 999);
    }

    // Terms 3: "NONE: that is 21."
    private static void reachOfNone() {
        checks.due("on 20", Checks.with(-20, 1).reach(), -1);
        checks.due("on 19", Checks.with(-19, 1).reach(), 1020);
        checks.due("just below 20", Checks.with(-99, 5).reach(), 1020);
        checks.due("just above 20", Checks.with(-81, 4).reach(), -1);
        checks.due("far right", Checks.with(-99, 1).reach(), -1);
    }

    // Terms 3: "STRIP of a and b: LEFT of SHIFT by b, less LEFT and AXIS of SHIFT by a."
    private static void stripLeavesOutItsLines() {
        // -2, 1 and 1, a pair on 3.
        SignTables x = new SignTables();
        x.factor(0, 2, 0);
        x.factor(1, -2, 1);
        x.factor(1, -6, 10);
        checks.due("multiply", x.multiply(), 5);
        checks.due("all", x.strip(-20, 20), 5);
        checks.due("one on a", x.strip(-2, 20), 4);
        checks.due("one on b", x.strip(-20, -2), 0);
        checks.due("on both", x.strip(-2, 1), 0);
        checks.due("two on b", x.strip(-3, 1), 1);
        checks.due("two on a", x.strip(1, 4), 2);
        checks.due("a pair on b", x.strip(0, 3), 2);
        checks.due("a pair on a", x.strip(3, 4), 0);
        checks.due("the narrowest", x.strip(2, 3), 0);
        checks.due("the narrowest", x.strip(0, 1), 0);
    }

    // In doubt: "STRIP of a C without DEGREE is 0."
    private static void stripWithoutDegree() {
        checks.due("without DEGREE", Checks.with().strip(-20, 20), 0);
        checks.due("without DEGREE", Checks.with().strip(0, 1), 0);
        checks.due("of DEGREE 0", Checks.with(-3).strip(-20, 20), 0);
        SignTables x = Checks.reading("s+K(s)");
        x.gain(-1);
        checks.due("without DEGREE by K", x.strip(-1, 1), 0);
        checks.due("a wrong one without DEGREE", Checks.with().strip(1, 1), -2);
    }

    // Promise 13: "STRIP (-20 .. 20 each)."
    private static void stripBounds() {
        SignTables x = Checks.with(0, 1);
        checks.due("strip(-20, 20)", x.strip(-20, 20), 1);
        checks.due("strip(-20, -19)", x.strip(-20, -19), 0);
        checks.due("strip(19, 20)", x.strip(19, 20), 0);
        checks.due("strip(-1, 1)", x.strip(-1, 1), 1);
        checks.due("-19.5", Checks.with(39, 2).strip(-20, -19), 1);
        checks.due("19.5", Checks.with(-39, 2).strip(19, 20), 1);
    }

    // Promise 13: "BAD: a, b, b not above a; GREAT."
    private static void stripRefuses() {
        SignTables x = Checks.with(0, 1);
        int[][] wrong = {{-21, 0}, {21, 22}, {-20, 21}, {-20, -21}, {0, 0}, {1, 0}, {20, -20}, {20, 20},
            {-20, -20}, {LEAST, 0}, {0, MOST}, {LEAST, MOST}, {MOST, LEAST}};
        SignTables y = Checks.with(98, 97, 93, -95, 89, -99, 99);
        for (int[] w : wrong) {
            checks.due("strip(" + w[0] + ", " + w[1] + ")", x.strip(w[0], w[1]), -2);
            checks.due("great strip(" + w[0] + ", " + w[1] + ")", y.strip(w[0], w[1]), -2);
        }
        checks.holds("20 is great", isGreat(y, 20));
        checks.holds("0 is not", !isGreat(y, 0));
        checks.holds("1 is not", !isGreat(y, 1));
        checks.due("great by b", y.strip(0, 20), -7);
        checks.due("great by neither", y.strip(0, 1), y.roots(31, 2) - y.roots(30, 2));
        checks.holds("-20 is great", isGreat(y, -20));
        checks.due("great by a", y.strip(-20, 0), -7);
        checks.due("great by both", y.strip(-20, 20), -7);
    }

    // Promise 14: "REACH and 1000 (NONE, if it is NONE)."
    private static void reachAnswers() {
        checks.due("-20", Checks.with(99, 1).reach(), 980);
        checks.due("20", Checks.with(-19, 1).reach(), 1020);
        checks.due("0", Checks.with(1, 2).reach(), 1000);
        checks.due("none", Checks.with(-99, 1).reach(), -1);
    }

    // Promise 14: "BAD: C has no DEGREE, DEGREE 0; GREAT: SIGN ROWS that are looked at are."
    private static void reachRefuses() {
        checks.due("without DEGREE", Checks.with().reach(), -2);
        checks.due("of DEGREE 0", Checks.with(-7).reach(), -2);
        checks.due("of DEGREE 1", Checks.with(-7, 1).reach(), 1008);
        SignTables x = Checks.reading("s+3+K(s)");
        x.gain(-1);
        checks.due("of DEGREE 0 by K", x.reach(), -2);
        SignTables y = Checks.with(98, 97, 93, -95, 89, -99, 99);
        checks.holds("10 is great", isGreat(y, 10));
        checks.due("great", y.reach(), -7);
        // 20 is GREAT, but it isn't looked at.
        y = Checks.with(-96, 90, -12, -69, -52, -9);
        checks.holds("20 is great", isGreat(y, 20));
        checks.due("none that is looked at is", y.reach(), 1001);
    }
}
