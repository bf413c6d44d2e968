/** Promises 23 to 27: gains that wait. */
public final class WaitingTest {
    private static final Checks checks = new Checks();

    public static void main(String[] args) {
        await();
        next();
        weedSteady();
        weedLikeOnes();
        weedRefuses();
        swap();
        checks.end();
    }

    private static SignTables line(String text, int... gains) {
        SignTables x = Checks.reading(text);
        for (int k : gains) {
            x.await(k);
        }
        return x;
    }

    private static void isLine(SignTables x, int... gains) {
        checks.due("count(0)", x.count(0), gains.length);
        for (int i = 0; i < gains.length; i++) {
            checks.due("waiting(" + i + ")", x.waiting(i), gains[i] + 1000);
        }
        checks.due("waiting behind the last", x.waiting(gains.length), -1);
        checks.due("waiting(-1)", x.waiting(-1), -1);
    }

    private static void await() {
        SignTables x = new SignTables();
        isLine(x);
        checks.due("await(101)", x.await(101), -2);
        checks.due("await(-101)", x.await(-101), -2);
        int[] due = new int[16];
        for (int i = 0; i < 16; i++) {
            due[i] = i % 2 == 0 ? 100 - i : i - 100;
            checks.due("await", x.await(due[i]), i + 1);
        }
        isLine(x, due);
        checks.due("await one more", x.await(0), -4);
        checks.due("await a wrong one more", x.await(101), -2);
        isLine(x, due);
        checks.due("K stays", x.count(4), 1000);
    }

    private static void next() {
        SignTables x = line("s", 5, -100, 7);
        checks.due("next", x.next(), 2);
        checks.due("K", x.count(4), 1005);
        isLine(x, -100, 7);
        checks.due("next", x.next(), 1);
        checks.due("K", x.count(4), 900);
        checks.due("next", x.next(), 0);
        checks.due("next of none", x.next(), -3);
        checks.due("K", x.count(4), 1007);
        checks.due("await", x.await(1), 1);
        isLine(x, 1);
    }

    private static void weedSteady() {
        // Steady on the line for 1 .. 5.
        String text = "s3+3s2+2s+K(1)";
        SignTables x = line(text, 0, 5, 6, 1, 5, -9, 3);
        checks.due("weed(0, 1)", x.weed(0, 1), 4);
        isLine(x, 0, 6, -9);
        x = line(text, 0, 5, 6, 1, 5, -9, 3);
        checks.due("weed(0, 0)", x.weed(0, 0), 3);
        isLine(x, 5, 1, 5, 3);
        checks.due("again", x.weed(0, 0), 0);
        isLine(x, 5, 1, 5, 3);
        checks.due("all", x.weed(0, 1), 4);
        isLine(x);
        checks.due("none", x.weed(0, 1), 0);
        // Steady in the circle for -1 .. 1, on the line above 0.
        x = line("2s+K(1)", -2, -1, 0, 1, 2);
        checks.due("weed(1, 1)", x.weed(1, 1), 3);
        isLine(x, -2, 2);
        checks.due("weed(1, 0)", x.weed(1, 0), 2);
        checks.due("K stays", x.count(4), 1000);
    }

    private static void weedLikeOnes() {
        SignTables x = line("s", 5, -3, 5, 7, -3, 5, 7, 8);
        checks.due("weed(0, 2)", x.weed(0, 2), 4);
        isLine(x, 5, -3, 7, 8);
        checks.due("again", x.weed(1, 2), 0);
        x = line("s", 4, 4, 4);
        checks.due("weed(1, 2)", x.weed(1, 2), 2);
        isLine(x, 4);
    }

    private static void weedRefuses() {
        SignTables x = line("s+1", 1, 1, 2);
        int[][] wrong = {{-1, 1}, {2, 1}, {2, 2}, {0, -1}, {0, 3}, {1, 3}};
        for (int[] w : wrong) {
            checks.due("weed(" + w[0] + ", " + w[1] + ")", x.weed(w[0], w[1]), -2);
        }
        isLine(x, 1, 1, 2);
    }

    private static void swap() {
        SignTables x = line("s", 5, 5, 100, -100, -3);
        checks.due("swap(0)", x.swap(0), 5);
        isLine(x, -3, -100, 100, 5, 5);
        checks.due("swap(0)", x.swap(0), 5);
        isLine(x, 5, 5, 100, -100, -3);
        checks.due("swap(1)", x.swap(1), 5);
        isLine(x, -100, -3, 5, 5, 100);
        checks.due("swap(2)", x.swap(2), 5);
        isLine(x, -3, 5, 5, 100, -100);
        checks.due("swap(-1)", x.swap(-1), -2);
        checks.due("swap(3)", x.swap(3), -2);
        isLine(x, -3, 5, 5, 100, -100);
        x = line("s", 2, -1);
        checks.due("swap(1) of two", x.swap(1), 2);
        isLine(x, -1, 2);
        for (int how = 0; how < 3; how++) {
            checks.due("swap of none", new SignTables().swap(how), 0);
            x = line("s", 9);
            checks.due("swap of one", x.swap(how), 1);
            isLine(x, 9);
        }
    }
}
