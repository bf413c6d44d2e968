/** Promises 37 to 42: trays. */
public final class TrayTest {
    private static final Checks checks = new Checks();

    public static void main(String[] args) {
        tray();
        trayRefuses();
        putAndGet();
        fill();
        fillInts();
        judge();
        rowRefusals();
        copy();
        copyOverlaps();
        copyRefuses();
        checks.end();
    }

    private static void isTray(SignTables x, int tray, long... items) {
        for (int i = 0; i < items.length; i++) {
            checks.due("get(" + tray + ", " + i + ")", x.get(tray, i), items[i]);
        }
        checks.due("get behind the end", x.get(tray, items.length), Checks.NO);
        checks.due("get ahead", x.get(tray, -1), Checks.NO);
    }

    private static void tray() {
        SignTables x = new SignTables();
        checks.due("tray(3, 0, 30)", x.tray(3, 0, 30), 1);
        isTray(x, 3, new long[30]);
        checks.due("put", x.put(3, 29, 5), 1);
        checks.due("put", x.put(3, 0, 5), 1);
        checks.due("tray(3, 1, 2)", x.tray(3, 1, 2), 1);
        isTray(x, 3, 0, 0);
        checks.due("tray(3, 0, 30)", x.tray(3, 0, 30), 1);
        isTray(x, 3, new long[30]);
        checks.due("tray(3, 0, 0)", x.tray(3, 0, 0), 1);
        isTray(x, 3);
        checks.due("put in an empty one", x.put(3, 0, 1), -13);
        checks.due("tray(3, -1, 99)", x.tray(3, -1, 99), 1);
        checks.due("put in nothing", x.put(3, 0, 1), -11);
        checks.due("tray(3, -1, -99)", x.tray(3, -1, -99), 1);
    }

    private static void trayRefuses() {
        SignTables x = new SignTables();
        x.tray(0, 0, 3);
        x.put(0, 2, 9);
        checks.due("tray(-1, 0, 1)", x.tray(-1, 0, 1), -1);
        checks.due("tray(4, 5, 99)", x.tray(4, 5, 99), -1);
        checks.due("tray(0, -2, 1)", x.tray(0, -2, 1), -2);
        checks.due("tray(0, 2, -1)", x.tray(0, 2, -1), -2);
        checks.due("tray(0, 0, 31)", x.tray(0, 0, 31), -2);
        checks.due("tray(0, 1, 31)", x.tray(0, 1, 31), -2);
        checks.due("tray(0, 0, -1)", x.tray(0, 0, -1), -14);
        checks.due("tray(0, 1, least)", x.tray(0, 1, Integer.MIN_VALUE), -14);
        isTray(x, 0, 0, 0, 9);
    }

    private static void putAndGet() {
        SignTables x = new SignTables();
        x.tray(0, 0, 2);
        x.tray(1, 1, 3);
        checks.due("put", x.put(0, 0, Long.MIN_VALUE), 1);
        checks.due("put", x.put(0, 1, Long.MAX_VALUE), 1);
        isTray(x, 0, Long.MIN_VALUE, Long.MAX_VALUE);
        x.put(1, 0, (1L << 32) + 7);
        x.put(1, 1, 1L << 31);
        x.put(1, 2, -1);
        isTray(x, 1, 7, Integer.MIN_VALUE, -1);
        checks.due("put(-1)", x.put(-1, 0, 1), -1);
        checks.due("put(4)", x.put(4, 0, 1), -1);
        checks.due("put(2)", x.put(2, 9, 1), -11);
        checks.due("put(0, 2)", x.put(0, 2, 1), -13);
        checks.due("put(0, -1)", x.put(0, -1, 1), -13);
        checks.due("get(-1)", x.get(-1, 0), Checks.NO);
        checks.due("get(4)", x.get(4, 0), Checks.NO);
        checks.due("get(2)", x.get(2, 0), Checks.NO);
    }

    private static void fill() {
        SignTables x = Checks.with(7, 6, 5, 4, 3, 2, 1);
        x.tray(0, 0, 6);
        for (int i = 0; i < 6; i++) {
            x.put(0, i, 40 + i);
        }
        checks.due("fill", x.fill(0, 0, 0), 4);
        isTray(x, 0, 1, 3, 5, 7, 44, 45);
        checks.due("fill", x.fill(0, 0, 1), 3);
        isTray(x, 0, 1, 2, 3, 7, 44, 45);
        x.tray(0, 0, 2);
        checks.due("fill a short one", x.fill(0, 2, 0), 2);
        isTray(x, 0, 7, 5);
        x.tray(0, 1, 0);
        checks.due("fill an empty one", x.fill(0, 0, 0), 0);
    }

    private static void fillInts() {
        Polys random = new Polys(47);
        int cut = 0;
        for (int round = 0; round < 200; round++) {
            SignTables x = random.object(6, 99);
            x.tray(1, 1, 4);
            int form = random.number(10, 50);
            int k = random.number(0, 6);
            int n = x.fill(1, form, k);
            int first = -1;
            for (int j = 0; j < n; j++) {
                checks.due("an int", x.get(1, j), (int) x.row(form, k, j));
                first = first < 0 && x.get(1, j) != x.row(form, k, j) ? j : first;
            }
            if (n >= 0) {
                checks.due("judge", x.judge(1, form, k), first >= 0 ? first : n < 4 ? n : -1);
            }
            cut += first >= 0 ? 1 : 0;
        }
        checks.holds("items were cut", cut > 0);
    }

    private static void judge() {
        SignTables x = Checks.with(7, 6, 5, 4, 3, 2, 1);
        x.tray(0, 0, 4);
        checks.due("judge zeros", x.judge(0, 0, 0), 0);
        x.fill(0, 0, 0);
        checks.due("judge like ones", x.judge(0, 0, 0), -1);
        checks.due("judge another form", x.judge(0, 2, 0), 0);
        x.put(0, 3, 8);
        checks.due("judge the last", x.judge(0, 0, 0), 3);
        x.put(0, 1, 8);
        checks.due("judge the first", x.judge(0, 0, 0), 1);
        x.fill(0, 0, 1);
        checks.due("judge behind the end", x.judge(0, 0, 1), 3);
        x.put(0, 3, 0);
        checks.due("judge behind the end, 0", x.judge(0, 0, 1), 3);
        x.tray(0, 1, 2);
        x.fill(0, 0, 0);
        checks.due("judge a short one", x.judge(0, 0, 0), -1);
        x.tray(0, 1, 0);
        checks.due("judge an empty one", x.judge(0, 0, 0), -1);
    }

    private static void rowRefusals() {
        SignTables x = Checks.with(1, 1, 1);
        SignTables y = Checks.with(98, 97, 93, -95, 89, -99, 99);
        x.tray(0, 0, 2);
        y.tray(0, 0, 2);
        int[][] due = {{-1, 4, 0, -1}, {4, 4, 0, -1}, {1, 4, 9, -2}, {0, 9, 0, -2}, {0, 51, 9, -2},
            {1, 0, 9, -11}, {0, 0, 3, -1}, {0, 0, -1, -1}};
        for (int[] d : due) {
            checks.due("fill(" + d[0] + ", " + d[1] + ", " + d[2] + ")", x.fill(d[0], d[1], d[2]), d[3]);
            checks.due("judge(" + d[0] + ", " + d[1] + ", " + d[2] + ")", x.judge(d[0], d[1], d[2]), d[3]);
        }
        checks.due("fill with great ones", y.fill(0, 50, 0), -7);
        checks.due("judge great ones", y.judge(0, 50, 6), -7);
        checks.due("fill with no row of great ones", y.fill(0, 50, 7), -1);
        checks.due("judge no row of great ones", y.judge(0, 50, 7), -1);
        isTray(y, 0, 0, 0);
        SignTables none = Checks.with();
        none.tray(0, 0, 2);
        checks.due("fill without degree", none.fill(0, 0, 0), -1);
        checks.due("judge without degree", none.judge(0, 0, 0), -1);
    }

    private static SignTables counted() {
        SignTables x = new SignTables();
        x.tray(0, 0, 5);
        x.tray(1, 0, 4);
        x.tray(2, 1, 5);
        for (int i = 0; i < 5; i++) {
            x.put(0, i, i + 1);
            x.put(1, i, -i - 1);
        }
        return x;
    }

    private static void copy() {
        SignTables x = counted();
        checks.due("copy", x.copy(0, 1, 1, 0, 3), 3);
        isTray(x, 1, 2, 3, 4, -4);
        isTray(x, 0, 1, 2, 3, 4, 5);
        checks.due("copy of none", x.copy(0, 5, 1, 4, 0), 0);
        isTray(x, 1, 2, 3, 4, -4);
        checks.due("copy all", x.copy(1, 0, 0, 1, 4), 4);
        isTray(x, 0, 1, 2, 3, 4, -4);
        x.put(2, 4, 8);
        checks.due("copy ints", x.copy(2, 4, 2, 0, 1), 1);
        isTray(x, 2, 8, 0, 0, 0, 8);
    }

    private static void copyOverlaps() {
        SignTables x = counted();
        checks.due("copy up", x.copy(0, 0, 0, 1, 4), 4);
        isTray(x, 0, 1, 1, 2, 3, 4);
        checks.due("copy down", x.copy(0, 1, 0, 0, 4), 4);
        isTray(x, 0, 1, 2, 3, 4, 4);
    }

    private static void copyRefuses() {
        SignTables x = counted();
        int most = Integer.MAX_VALUE;
        int[][] due = {{-1, 0, 0, 0, 1, -1}, {0, 0, 4, 0, 1, -1}, {4, -1, 3, 0, 1, -1},
            {3, 0, 0, 0, 1, -11}, {0, 0, 3, -1, 1, -11}, {2, 0, 3, 0, 1, -11},
            {0, 0, 2, 0, 1, -12}, {2, 9, 0, 9, -1, -12},
            {0, 0, 1, 0, -1, -13}, {0, -1, 1, 0, 1, -13}, {0, 0, 1, -1, 1, -13}, {0, 0, 1, 0, 5, -13},
            {0, 2, 1, 0, 4, -13}, {0, 0, 1, 2, 3, -13}, {0, 6, 1, 0, 0, -13}, {0, 0, 1, 5, 0, -13},
            {0, most, 1, 0, 1, -13}, {0, 1, 1, 0, most, -13}, {0, 0, 1, most, most, -13},
            {0, 0, 1, 0, Integer.MIN_VALUE, -13}, {0, 1, 0, 1, 5, -13}};
        for (int[] d : due) {
            String call = "copy(" + d[0] + ", " + d[1] + ", " + d[2] + ", " + d[3] + ", " + d[4] + ")";
            checks.due(call, x.copy(d[0], d[1], d[2], d[3], d[4]), d[5]);
        }
        isTray(x, 0, 1, 2, 3, 4, 5);
        isTray(x, 1, -1, -2, -3, -4);
        isTray(x, 2, 0, 0, 0, 0, 0);
    }
}
