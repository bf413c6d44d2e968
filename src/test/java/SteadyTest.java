/** Promises 15 to 18: steady gains, their spans and edges. */
public final class SteadyTest {
    private static final Checks checks = new Checks();

    public static void main(String[] args) {
        steady();
        degreeOfBoth();
        refusals();
        spans();
        wholeSpan();
        manySpans();
        nearest();
        forgotten();
        edgesByHand();
        checks.end();
    }

    private static void steady() {
        SignTables x = Checks.reading("s3+3s2+2s+K(1)");
        checks.due("0: a root on the axis", x.steady(0, 1, 0), 0);
        checks.due("1", x.steady(0, 1, 1), 1);
        checks.due("6: roots on the axis", x.steady(0, 1, 6), 0);
        checks.due("1 of 16", x.steady(0, 16, 1), 1);
        checks.due("95 of 16", x.steady(0, 16, 95), 1);
        checks.due("96 of 16", x.steady(0, 16, 96), 0);
        checks.due("negative", x.steady(0, 1, -1), 0);
        x = Checks.reading("2s+K(1)");
        checks.due("within", x.steady(1, 1, 1), 1);
        checks.due("on at -1", x.steady(1, 1, 2), 0);
        checks.due("on at 1", x.steady(1, 1, -2), 0);
        checks.due("out", x.steady(1, 1, 3), 0);
        checks.due("31 of 16", x.steady(1, 16, 31), 1);
        checks.due("32 of 16", x.steady(1, 16, 32), 0);
        x.gain(7);
        checks.due("K does not matter", x.steady(1, 1, 1), 1);
        checks.due("on, but not at 1", Checks.with(1, 0, 1).steady(1, 1, 0), 0);
        checks.due("great ones", Checks.with(98, 97, 93, 95, 89, 99, 99).steady(0, 1, 0), 0);
    }

    private static void degreeOfBoth() {
        SignTables x = Checks.reading("s2+s+1+K(s3)");
        checks.due("less than both", x.steady(0, 1, 0), 0);
        checks.due("as both", Checks.reading("s2+s+1").steady(0, 1, 0), 1);
        x = Checks.reading("3s+5+K(s)");
        checks.due("left", x.steady(0, 1, -2), 1);
        checks.due("degree is lost", x.steady(0, 1, -3), 0);
        checks.due("left again", x.steady(0, 1, -4), 0);
        checks.due("degree 0", Checks.with(5).steady(0, 1, 0), 0);
        checks.due("degree 0 on the circle", Checks.with(5).steady(1, 1, 0), 0);
        checks.due("no degree", Checks.with().steady(1, 1, 0), 0);
        checks.due("no degree of C", Checks.reading("s+K(s)").steady(0, 1, -1), 0);
    }

    private static void refusals() {
        SignTables x = Checks.reading("s+1");
        int[][] wrong = {{-1, 1, 0}, {2, 1, 0}, {0, 0, 0}, {0, 17, 0}, {0, 1, 1601}, {1, 1, -1601}};
        for (int[] w : wrong) {
            checks.due("steady(" + w[0] + ", " + w[1] + ", " + w[2] + ")", x.steady(w[0], w[1], w[2]), -2);
        }
        checks.due("steady(0, 16, 1600)", x.steady(0, 16, 1600), 1);
        checks.due("steady(0, 1, -1600)", x.steady(0, 1, -1600), 1);
        checks.due("spans(-1)", x.spans(-1), -2);
        checks.due("spans(2)", x.spans(2), -2);
        checks.due("span(2, 0, 0)", x.span(2, 0, 0), -2);
        checks.due("span(0, 0, 5)", x.span(0, 0, 5), -2);
        checks.due("span(0, 9, -1)", x.span(0, 9, -1), -2);
        checks.due("span(0, 1, 0)", x.span(0, 1, 0), -1);
        checks.due("span(0, -1, 0)", x.span(0, -1, 0), -1);
        checks.due("nearest(-1, 0)", x.nearest(-1, 0), -2);
        checks.due("nearest(0, 101)", x.nearest(0, 101), -2);
        checks.due("nearest(0, -101)", x.nearest(0, -101), -2);
    }

    private static void isSpan(SignTables x, int kind, int i, int... due) {
        for (int what = 0; what < 5; what++) {
            int more = what < 2 ? 1000 : what < 4 ? 10000 : 0;
            checks.due("span(" + kind + ", " + i + ", " + what + ")", x.span(kind, i, what), due[what] + more);
        }
    }

    private static void spans() {
        SignTables x = Checks.reading("s3+3s2+2s+K(1)");
        checks.due("spans", x.spans(0), 1);
        isSpan(x, 0, 0, 1, 5, 1, 95, 5);
        x = Checks.reading("s+1+K(1)");
        isSpan(x, 0, 0, 0, 100, -15, 1600, 101);
        x = Checks.reading("s+1-K(1)");
        isSpan(x, 0, 0, -100, 0, -1600, 15, 101);
        x = Checks.reading("2s+K(1)");
        isSpan(x, 1, 0, -1, 1, -31, 31, 3);
        checks.due("none", Checks.reading("s-1").spans(0), 0);
    }

    private static void wholeSpan() {
        SignTables x = Checks.reading("s+1");
        checks.due("spans", x.spans(0), 1);
        isSpan(x, 0, 0, -100, 100, -1600, 1600, 201);
        checks.due("a root on the circle", x.spans(1), 0);
    }

    // By each gain as steady tells it.
    private static void manySpans() {
        Polys random = new Polys(23);
        int seen = 0;
        for (int round = 0; round < 60; round++) {
            SignTables x = random.object(1 + round % 4, 30);
            for (int i = 0; i < 5; i++) {
                x.set(1, i, random.number(-9, 9));
            }
            for (int kind = 0; kind < 2; kind++) {
                seen = Math.max(seen, spansOf(x, kind));
            }
        }
        SignTables x = Checks.reading("-s2-4s-4+K(s2)");
        checks.due("s s with either sign, but not 0", spansOf(x, 0), 1);
        x = Checks.reading("3s+2+K(s)");
        checks.due("split where the degree is lost", spansOf(x, 1), 2);
        isSpan(x, 1, 0, -100, -6, -1600, -81, 95);
        isSpan(x, 1, 1, 0, 100, -15, 1600, 101);
        checks.holds("there were spans", seen > 0);
    }

    private static int spansOf(SignTables x, int kind) {
        int n = 0;
        boolean inside = false;
        for (int k = -100; k <= 100; k++) {
            boolean is = x.steady(kind, 1, k) == 1;
            if (is && !inside) {
                checks.due("first", x.span(kind, n, 0), k + 1000);
                checks.due("first edge", x.span(kind, n, 2), firstEdge(x, kind, k) + 10000);
                n++;
            }
            if (is && (k == 100 || x.steady(kind, 1, k + 1) == 0)) {
                checks.due("last", x.span(kind, n - 1, 1), k + 1000);
                checks.due("last edge", x.span(kind, n - 1, 3), lastEdge(x, kind, k) + 10000);
                checks.due("size", x.span(kind, n - 1, 4), x.span(kind, n - 1, 1) - x.span(kind, n - 1, 0) + 1);
            }
            inside = is;
        }
        checks.due("spans", x.spans(kind), n);
        return n;
    }

    private static int firstEdge(SignTables x, int kind, int k) {
        if (k == -100) {
            return -1600;
        }
        int low = 16 * (k - 1);
        int high = 16 * k;
        while (high - low > 1) {
            int middle = low + (high - low) / 2;
            if (x.steady(kind, 16, middle) == 1) {
                high = middle;
            } else {
                low = middle;
            }
        }
        return high;
    }

    private static int lastEdge(SignTables x, int kind, int k) {
        if (k == 100) {
            return 1600;
        }
        int low = 16 * k;
        int high = 16 * (k + 1);
        while (high - low > 1) {
            int middle = low + (high - low) / 2;
            if (x.steady(kind, 16, middle) == 1) {
                low = middle;
            } else {
                high = middle;
            }
        }
        return low;
    }

    private static void nearest() {
        SignTables x = Checks.reading("3s+2+K(s)");
        int[][] due = {{-100, 0}, {-6, 0}, {-5, 0}, {-4, 0}, {-3, 0}, {-2, 1}, {0, 1}, {100, 1}};
        for (int[] d : due) {
            checks.due("nearest(1, " + d[0] + ")", x.nearest(1, d[0]), d[1]);
        }
        x = Checks.reading("s-1");
        checks.due("none", x.nearest(0, 5), -1);
        checks.due("none, wrong k", x.nearest(0, 101), -2);
    }

    // What was found holds no longer, when P or Q are others.
    private static void forgotten() {
        SignTables x = Checks.reading("s+1+K(1)");
        x.image();
        checks.due("at first", x.span(0, 0, 0), 1000);
        x.set(0, 0, 3);
        checks.due("after set", x.span(0, 0, 0), 998);
        x.undo();
        checks.due("after undo", x.span(0, 0, 0), 1000);
        Checks.read(x, "s+5+K(1)");
        checks.due("after read", x.span(0, 0, 0), 996);
        x.factor(0, 2, 0);
        x.multiply();
        checks.due("after multiply", x.span(0, 0, 0), 999);
        checks.due("the circle's", x.span(1, 0, 1), 998);
        x.set(1, 0, -1);
        checks.due("the circle's after set", x.span(1, 0, 1), 1002);
    }

    private static void edgesByHand() {
        // 3 s + 10 K + 1: the root is left for K above -1 of 10, within for |10 K + 1| below 3.
        SignTables x = Checks.reading("3s+1+K(10)");
        isSpan(x, 0, 0, 0, 100, -1, 1600, 101);
        isSpan(x, 1, 0, 0, 0, -6, 3, 1);
    }
}
