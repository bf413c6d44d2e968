import java.math.BigInteger;
import java.util.List;
import java.util.Set;
import java.util.TreeSet;

/** Promises 19 to 22: the chain that counts roots on the line of numbers. */
public final class ChainTest {
    private static final Checks checks = new Checks();
    private static int great;
    private static int sound;

    public static void main(String[] args) {
        byHand();
        doubleRoots();
        refusals();
        againstWholeNumbers();
        againstKnownRoots();
        checks.holds("great ones: " + great, great > 5);
        checks.holds("sound ones: " + sound, sound > 300);
        checks.end();
    }

    private static void isLink(SignTables x, int i, long... due) {
        for (int power = 0; power < 7; power++) {
            checks.due("link(" + i + ", " + power + ")", x.link(i, power), power < due.length ? due[power] : 0);
        }
    }

    private static void byHand() {
        // 2 (s - 1) (s - 2) (s - 3)
        SignTables x = Checks.with(-12, 22, -12, 2);
        checks.due("links", x.links(), 4);
        isLink(x, 0, -6, 11, -6, 1);
        isLink(x, 1, 11, -12, 3);
        isLink(x, 2, -2, 1);
        isLink(x, 3, 1);
        checks.due("link(4, 0)", x.link(4, 0), Checks.NO);
        int[] changes = {3, 2, 1, 0};
        for (int at = 0; at < 4; at++) {
            checks.due("chain(" + at + ")", x.chain(at), changes[at]);
        }
        checks.due("real(0, 4)", x.real(0, 4), 103);
        checks.due("real(0, 1)", x.real(0, 1), 101);
        checks.due("real(1, 2)", x.real(1, 2), 101);
        checks.due("real(3, 4)", x.real(3, 4), 100);
        // 7 - 14 s: highest coefficients below 0
        x = Checks.with(7, -14);
        checks.due("links", x.links(), 2);
        isLink(x, 0, 1, -2);
        isLink(x, 1, -1);
        checks.due("chain(-3)", x.chain(-3), 1);
        checks.due("chain(3)", x.chain(3), 0);
    }

    private static void doubleRoots() {
        // (s - 1) (s - 1) (s + 2)
        SignTables x = Checks.with(2, -3, 0, 1);
        checks.due("links", x.links(), 3);
        isLink(x, 2, -1, 1);
        checks.due("real(-3, 3)", x.real(-3, 3), 102);
        checks.due("all links are 0", x.chain(1), 0);
        x = Checks.with(0, 0, 0, 0, 0, 0, 5);
        checks.due("links", x.links(), 2);
        checks.due("real(-1, 1)", x.real(-1, 1), 101);
        isLink(x, 0, 0, 0, 0, 0, 0, 0, 1);
        isLink(x, 1, 0, 0, 0, 0, 0, 1);
    }

    private static void refusals() {
        for (SignTables x : new SignTables[] {Checks.with(), Checks.with(4)}) {
            checks.due("links", x.links(), -2);
            checks.due("link", x.link(0, 0), Checks.NO);
            checks.due("chain", x.chain(0), -2);
            checks.due("real", x.real(0, 1), -2);
        }
        SignTables x = Checks.with(-12, 22, -12, 2);
        checks.due("link(-1, 0)", x.link(-1, 0), Checks.NO);
        checks.due("link(0, -1)", x.link(0, -1), Checks.NO);
        checks.due("link(0, 7)", x.link(0, 7), Checks.NO);
        checks.due("chain(21)", x.chain(21), -2);
        checks.due("chain(-21)", x.chain(-21), -2);
        checks.due("chain(20)", x.chain(20), 0);
        int[][] wrong = {{-21, 0}, {0, 21}, {1, 1}, {2, 1}, {21, 22}};
        for (int[] w : wrong) {
            checks.due("real(" + w[0] + ", " + w[1] + ")", x.real(w[0], w[1]), -2);
        }
        SignTables y = Checks.with(98, 97, 93, -95, 89, -99, 99);
        checks.due("great links", y.links(), -7);
        checks.due("great link", y.link(0, 0), Checks.NO);
        checks.due("great chain", y.chain(0), -7);
        checks.due("great chain, wrong x", y.chain(21), -2);
        checks.due("great real", y.real(0, 1), -7);
        checks.due("great real, wrong b", y.real(0, 0), -2);
        y.set(0, 6, 0);
        y.set(0, 5, 0);
        y.set(0, 4, 0);
        checks.due("great no longer", y.links(), 4);
        checks.due("a chain again", y.real(-20, 20), y.chain(-20) - y.chain(20) + 100);
    }

    private static int changesAt(List<List<BigInteger>> links, int at) {
        int found = 0;
        int ahead = 0;
        for (List<BigInteger> link : links) {
            int sign = Polys.value(link, at).signum();
            found += sign * ahead < 0 ? 1 : 0;
            ahead = sign == 0 ? ahead : sign;
        }
        return found;
    }

    private static void againstWholeNumbers() {
        Polys random = new Polys(29);
        for (int round = 0; round < 900; round++) {
            SignTables x = random.object(1 + round % 6, round % 4 == 0 ? 99 : 12);
            if (round % 3 == 0) {
                x.set(1, random.number(0, 6), random.number(-99, 99));
                x.gain(random.number(-100, 100));
            }
            List<BigInteger> c = Polys.form(x, 0);
            if (Polys.degree(c) < 1) {
                continue;
            }
            List<List<BigInteger>> due;
            try {
                due = Polys.chain(c);
            } catch (Polys.TooGreat e) {
                great++;
                checks.due("great links", x.links(), -7);
                continue;
            }
            sound++;
            checks.due("links", x.links(), due.size());
            for (int i = 0; i < due.size(); i++) {
                for (int power = 0; power < 7; power++) {
                    checks.due("link", x.link(i, power), due.get(i).get(power).longValueExact());
                }
            }
            for (int at = -20; at <= 20; at += 4) {
                checks.due("chain at " + at, x.chain(at), changesAt(due, at));
            }
        }
    }

    private static void againstKnownRoots() {
        Polys random = new Polys(31);
        for (int round = 0; round < 500; round++) {
            SignTables x = new SignTables();
            Set<Integer> roots = new TreeSet<>();
            int n = random.number(1, 4);
            for (int i = 0; i < n; i++) {
                int root = random.number(0, 3) * 2 - 3;
                roots.add(root);
                x.factor(0, -root, 0);
            }
            if (random.number(0, 1) == 1) {
                x.factor(1, 1, 1);
            }
            if (x.multiply() < 0) {
                continue;
            }
            checks.due("real roots", x.real(-5, 4), 100 + roots.size());
            int above = 0;
            for (int root : roots) {
                above += root > 0 ? 1 : 0;
            }
            checks.due("real roots above 0", x.real(0, 6), 100 + above);
        }
    }
}
