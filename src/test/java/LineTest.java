/** Promises 13 and 14: strips between two lines, and the reach of the roots. */
public final class LineTest {
    private static final Checks checks = new Checks();

    public static void main(String[] args) {
        strips();
        stripRefuses();
        stripsAddUp();
        reaches();
        reachRefuses();
        checks.end();
    }

    private static void strips() {
        // (s + 3) (s - 2) (s s + 4)
        SignTables x = Checks.with(-24, 4, -2, 1, 1);
        checks.due("strip(-20, 20)", x.strip(-20, 20), 4);
        checks.due("strip(-4, 0)", x.strip(-4, 0), 1);
        checks.due("strip(-3, 0)", x.strip(-3, 0), 0);
        checks.due("strip(-4, -3)", x.strip(-4, -3), 0);
        checks.due("strip(-1, 1)", x.strip(-1, 1), 2);
        checks.due("strip(0, 3)", x.strip(0, 3), 1);
        checks.due("strip(1, 2)", x.strip(1, 2), 0);
        checks.due("strip(2, 20)", x.strip(2, 20), 0);
        checks.due("strip of degree 0", Checks.with(5).strip(-1, 1), 0);
    }

    private static void stripRefuses() {
        SignTables x = Checks.with(1, 1);
        int[][] wrong = {{-21, 0}, {0, 21}, {-20, -21}, {3, 3}, {4, 3}, {21, 22},
            {Integer.MIN_VALUE, Integer.MAX_VALUE}};
        for (int[] w : wrong) {
            checks.due("strip(" + w[0] + ", " + w[1] + ")", x.strip(w[0], w[1]), -2);
        }
        SignTables y = Checks.with(98, 97, 93, -95, 89, -99, 99);
        checks.due("20 is great", y.roots(50, 0), -7);
        checks.due("strip to a great one", y.strip(0, 20), -7);
        checks.due("0 is not", y.roots(30, 0), 2);
        int low = -20;
        while (low < 0 && y.roots(30 + low, 0) != -7) {
            low++;
        }
        checks.holds("a great one below 0", low < 0);
        checks.due("strip from a great one", y.strip(low, 0), -7);
        checks.due("a great one with wrong numbers", y.strip(20, 0), -2);
    }

    private static void stripsAddUp() {
        Polys random = new Polys(19);
        for (int round = 0; round < 100; round++) {
            SignTables x = random.object(1 + round % 4, 9);
            int all = 0;
            for (int a = -20; a < 20; a++) {
                all += x.strip(a, a + 1) + (a > -20 ? x.roots(30 + a, 1) : 0);
            }
            checks.due("strips and lines", all, x.strip(-20, 20));
        }
    }

    private static void reaches() {
        checks.due("new", new SignTables().reach(), 1001);
        checks.due("-19", Checks.with(19, 1).reach(), 982);
        checks.due("-20", Checks.with(20, 1).reach(), 981);
        checks.due("-21", Checks.with(21, 1).reach(), 980);
        checks.due("-99", Checks.with(99, 1).reach(), 980);
        checks.due("19", Checks.with(-19, 1).reach(), 1020);
        checks.due("20", Checks.with(-20, 1).reach(), -1);
        checks.due("99", Checks.with(-99, 1).reach(), -1);
        checks.due("half", Checks.with(-1, 2).reach(), 1001);
        checks.due("less than half", Checks.with(1, 2).reach(), 1000);
        checks.due("beside the line", Checks.with(13, -4, 1).reach(), 1003);
        checks.due("many", Checks.with(-24, 4, -2, 1, 1).reach(), 1003);
        checks.due("turned about", Checks.with(24, -4, 2, -1, -1).reach(), 1003);
    }

    private static void reachRefuses() {
        checks.due("no degree", Checks.with().reach(), -2);
        checks.due("degree 0", Checks.with(3).reach(), -2);
        SignTables x = Checks.reading("s+1-K(s)");
        x.gain(1);
        checks.due("degree 0 by K", x.reach(), -2);
        checks.due("great", Checks.with(98, 97, 93, -95, 89, -99, 99).reach(), -7);
    }
}
