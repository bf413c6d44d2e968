/** Promises 33 to 36: roots on the right by each gain, jumps and the best gain. */
public final class RightsTest {
    private static final Checks checks = new Checks();

    public static void main(String[] args) {
        byHand();
        bestOfSeveral();
        refusals();
        byRoots();
        great();
        forgotten();
        checks.end();
    }

    private static void byHand() {
        SignTables x = Checks.reading("s3+3s2+2s+K(1)");
        checks.due("rights(-100)", x.rights(-100), 1);
        checks.due("rights(-1)", x.rights(-1), 1);
        checks.due("rights(0)", x.rights(0), 0);
        checks.due("rights(6)", x.rights(6), 0);
        checks.due("rights(7)", x.rights(7), 2);
        checks.due("rights(100)", x.rights(100), 2);
        checks.due("jumps", x.jumps(), 2);
        checks.due("jump(0)", x.jump(0), 1000);
        checks.due("jump(1)", x.jump(1), 1007);
        checks.due("best", x.best(), 1000);
        checks.due("K stays", x.count(4), 1000);
        checks.due("no jumps", new SignTables().jumps(), 0);
        checks.due("no jump", new SignTables().jump(0), -1);
        checks.due("jump at once", Checks.reading("s-5+K(1)").jump(0), 1005);
        checks.due("best at once", Checks.reading("s-5+K(1)").best(), 1005);
        checks.due("jump to the last gain", Checks.reading("s-99+K(1)").jump(0), 1099);
        checks.due("jump at 100", Checks.reading("s3+9s2+11s+K(1)").jump(1), 1100);
        checks.due("jumps to 100", Checks.reading("s3+9s2+11s+K(1)").jumps(), 2);
    }

    private static void bestOfSeveral() {
        checks.due("all alike", Checks.reading("s-1").best(), 1000);
        checks.due("least is nearest to 0", Checks.reading("s-5+K(1)").best(), 1005);
        checks.due("least is nearest to 0", Checks.reading("s-5-K(1)").best(), 995);
        checks.due("at the end", Checks.reading("s+99+K(1)").best(), 1000);
        checks.due("far", Checks.reading("s-99+K(1)").best(), 1099);
        twoAlike();
    }

    // Two gains that are equally near to 0: the lesser is the best.
    private static void twoAlike() {
        Polys random = new Polys(37);
        int seen = 0;
        for (int round = 0; round < 4000; round++) {
            SignTables x = random.object(random.number(2, 5), 6);
            int power = random.number(0, 5);
            x.set(1, power, 1);
            int k = x.best() - 1000;
            checks.holds("none is nearer", k == 0 || x.rights(0) != x.rights(k));
            if (k != 0 && x.rights(k) == x.rights(-k)) {
                seen++;
                checks.holds("the lesser", k < 0);
            }
        }
        checks.holds("two were alike: " + seen, seen > 0);
    }

    private static void refusals() {
        SignTables x = new SignTables();
        checks.due("rights(101)", x.rights(101), -2);
        checks.due("rights(-101)", x.rights(-101), -2);
        checks.due("jump(-1)", Checks.reading("s+K(1)").jump(-1), -1);
        checks.due("jump(1)", Checks.reading("s+K(1)").jump(1), -1);
    }

    private static void byRoots() {
        Polys random = new Polys(41);
        for (int round = 0; round < 40; round++) {
            SignTables x = random.object(1 + round % 6, 40);
            for (int i = 0; i < 7; i++) {
                x.set(1, i, random.number(-20, 20));
            }
            isAsRoots(x);
        }
    }

    private static void isAsRoots(SignTables x) {
        int jumps = 0;
        int ahead = 0;
        int best = -1;
        int least = 9;
        for (int k = -100; k <= 100; k++) {
            x.gain(k);
            int right = x.roots(0, 0);
            checks.due("rights", x.rights(k), right);
            if (k > -100 && right != ahead) {
                checks.due("jump", x.jump(jumps), k + 1000);
                jumps++;
            }
            ahead = right;
            boolean nearer = right == least && Math.abs(k) < Math.abs(best - 1000);
            if (right != -7 && (right < least || nearer)) {
                best = k + 1000;
                least = right;
            }
        }
        checks.due("jumps", x.jumps(), jumps);
        checks.due("jump behind the last", x.jump(jumps), -1);
        checks.due("best", x.best(), best);
    }

    // By gain 0 no sign rows are great, as coefficients of P are too small for that.
    private static void great() {
        Polys random = new Polys(43);
        int seen = 0;
        for (int round = 0; round < 200; round++) {
            SignTables x = new SignTables();
            for (int i = 0; i < 7; i++) {
                x.set(0, i, random.number(-99, 99));
                x.set(1, i, random.number(-99, 99));
            }
            if (x.rights(100) == -7 || x.rights(-100) == -7) {
                seen++;
                isAsRoots(x);
            }
        }
        checks.holds("some were great: " + seen, seen > 10);
    }

    private static void forgotten() {
        SignTables x = Checks.reading("s-5+K(1)");
        x.image();
        checks.due("at first", x.best(), 1005);
        x.set(0, 0, -6);
        checks.due("after set", x.best(), 1006);
        x.undo();
        checks.due("after undo", x.best(), 1005);
        Checks.read(x, "s-7+K(1)");
        checks.due("after read", x.best(), 1007);
        x.factor(0, -8, 0);
        x.multiply();
        checks.due("after multiply", x.best(), 1008);
    }
}
