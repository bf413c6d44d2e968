import java.math.BigInteger;
import java.util.ArrayList;
import java.util.List;
import java.util.Random;

/** Polynomials for tests, and what the document makes of them, in whole numbers of any size. */
final class Polys {
    private static final BigInteger MOST = BigInteger.valueOf(Long.MAX_VALUE);

    private final Random random;

    Polys(long seed) {
        random = new Random(seed);
    }

    int number(int least, int most) {
        return least + random.nextInt(most - least + 1);
    }

    /** A new object with P of a degree n, each third coefficient 0. */
    SignTables object(int n, int most) {
        SignTables x = new SignTables();
        x.set(0, 1, 0);
        for (int i = 0; i < n; i++) {
            x.set(0, i, random.nextInt(3) == 0 ? 0 : number(-most, most));
        }
        int top = number(1, most);
        x.set(0, n, random.nextBoolean() ? top : -top);
        return x;
    }

    /** A number of the program's is too great. */
    static final class TooGreat extends RuntimeException {
        private static final long serialVersionUID = 1;
    }

    private static BigInteger checked(BigInteger v) {
        if (v.abs().compareTo(MOST) > 0) {
            throw new TooGreat();
        }
        return v;
    }

    private static BigInteger times(BigInteger a, BigInteger b) {
        return checked(a.multiply(b));
    }

    private static BigInteger less(BigInteger a, BigInteger b) {
        return checked(a.subtract(b));
    }

    static int degree(List<BigInteger> c) {
        int n = -1;
        for (int i = 0; i < c.size(); i++) {
            n = c.get(i).signum() != 0 ? i : n;
        }
        return n;
    }

    private static void shrink(List<BigInteger> c) {
        BigInteger all = BigInteger.ZERO;
        for (BigInteger v : c) {
            all = all.gcd(v);
        }
        for (int i = 0; i < c.size() && all.signum() != 0; i++) {
            c.set(i, c.get(i).divide(all));
        }
    }

    /** The sign rows of a form, and their cases; TooGreat, if they are so. */
    static final class Rows {
        final List<List<BigInteger>> rows = new ArrayList<>();
        final List<Integer> cases = new ArrayList<>();

        Rows(List<BigInteger> c) {
            int m = degree(c);
            for (int k = 0; k <= m; k++) {
                List<BigInteger> row = k < 2 ? taken(c, m - k) : crossed(k, m);
                cases.add(k == 0 ? 0 : mend(row, k, m));
                shrink(row);
                rows.add(row);
            }
        }

        private static List<BigInteger> taken(List<BigInteger> c, int from) {
            List<BigInteger> row = new ArrayList<>();
            for (int power = from; power >= 0; power -= 2) {
                row.add(c.get(power));
            }
            return row;
        }

        private static BigInteger at(List<BigInteger> row, int j) {
            return j < row.size() ? row.get(j) : BigInteger.ZERO;
        }

        private List<BigInteger> crossed(int k, int m) {
            List<BigInteger> b = rows.get(k - 1);
            List<BigInteger> a = rows.get(k - 2);
            List<BigInteger> row = new ArrayList<>();
            for (int j = 0; j <= (m - k) / 2; j++) {
                BigInteger item = less(times(at(b, 0), at(a, j + 1)), times(at(a, 0), at(b, j + 1)));
                row.add(at(b, 0).signum() < 0 ? item.negate() : item);
            }
            return row;
        }

        private int mend(List<BigInteger> row, int k, int m) {
            int z = 0;
            while (z < row.size() && row.get(z).signum() == 0) {
                z++;
            }
            if (z == 0) {
                return 0;
            }
            List<BigInteger> were = new ArrayList<>(row);
            for (int j = 0; j < row.size(); j++) {
                if (z == row.size()) {
                    BigInteger by = BigInteger.valueOf(m - k + 1 - 2 * j);
                    row.set(j, times(rows.get(k - 1).get(j), by));
                } else {
                    BigInteger more = at(were, j + z);
                    row.set(j, checked(were.get(j).add(z % 2 == 1 ? more.negate() : more)));
                }
            }
            return z == row.size() ? 2 : 1;
        }

        int changes(int i, int j) {
            int found = 0;
            for (int k = i + 1; k <= j; k++) {
                found += rows.get(k).get(0).signum() != rows.get(k - 1).get(0).signum() ? 1 : 0;
            }
            return found;
        }

        int right() {
            return changes(0, rows.size() - 1);
        }

        int axis() {
            int k = cases.indexOf(2);
            int m = rows.size() - 1;
            return k < 0 ? 0 : m - k + 1 - 2 * changes(k - 1, m);
        }
    }

    /** Whether all roots lie left of the axis, by rows of numbers of any size. */
    static boolean allLeft(List<BigInteger> c) {
        int m = degree(c);
        List<BigInteger> a = Rows.taken(c, m);
        List<BigInteger> b = m < 1 ? a : Rows.taken(c, m - 1);
        int sign = a.get(0).signum();
        for (int k = 1; k <= m; k++) {
            if (b.get(0).signum() != sign) {
                return false;
            }
            List<BigInteger> next = new ArrayList<>();
            for (int j = 0; j < a.size() - 1; j++) {
                BigInteger item = b.get(0).multiply(a.get(j + 1)).subtract(a.get(0).multiply(Rows.at(b, j + 1)));
                next.add(sign < 0 ? item.negate() : item);
            }
            a = b;
            b = next;
        }
        return true;
    }

    /** The links of a chain; TooGreat, if they are so. */
    static List<List<BigInteger>> chain(List<BigInteger> c) {
        List<List<BigInteger>> links = new ArrayList<>();
        List<BigInteger> a = new ArrayList<>(c);
        List<BigInteger> b = new ArrayList<>();
        for (int i = 0; i < c.size(); i++) {
            boolean inside = i + 1 < c.size();
            b.add(inside ? c.get(i + 1).multiply(BigInteger.valueOf(i + 1)) : BigInteger.ZERO);
        }
        shrink(a);
        shrink(b);
        links.add(a);
        while (degree(b) >= 0) {
            links.add(b);
            List<BigInteger> rest = rest(a, b);
            for (int i = 0; i < rest.size(); i++) {
                rest.set(i, rest.get(i).negate());
            }
            shrink(rest);
            a = b;
            b = rest;
        }
        return links;
    }

    private static List<BigInteger> rest(List<BigInteger> a, List<BigInteger> b) {
        List<BigInteger> rest = new ArrayList<>(a);
        int n = degree(b);
        BigInteger top = b.get(n);
        while (degree(rest) >= n) {
            int high = degree(rest);
            BigInteger first = rest.get(high);
            for (int i = 0; i < rest.size(); i++) {
                rest.set(i, times(rest.get(i), top.abs()));
            }
            for (int i = 0; i <= n; i++) {
                BigInteger part = times(first, b.get(i));
                part = top.signum() < 0 ? part.negate() : part;
                rest.set(i + high - n, less(rest.get(i + high - n), part));
            }
        }
        return rest;
    }

    static BigInteger value(List<BigInteger> c, int x) {
        BigInteger value = BigInteger.ZERO;
        for (int i = degree(c); i >= 0; i--) {
            value = checked(times(value, BigInteger.valueOf(x)).add(c.get(i)));
        }
        return value;
    }

    /** The coefficients of a form of an object. */
    static List<BigInteger> form(SignTables x, int form) {
        List<BigInteger> c = new ArrayList<>();
        for (int power = 0; power < 7; power++) {
            c.add(BigInteger.valueOf(x.form(form, power)));
        }
        return c;
    }
}
