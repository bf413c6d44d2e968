/** Boundary cases of gains that wait, a test for each sentence. */
public final class EdgesOfWaitingTest {
    private static final Checks checks = new Checks();
    private static final int LEAST = Integer.MIN_VALUE;
    private static final int MOST = Integer.MAX_VALUE;
    /** Steady on the line for 1 .. 5. */
    private static final String TEXT = "s3+3s2+2s+K(1)";

    public static void main(String[] args) {
        sixteenAtMost();
        awaitAnswers();
        awaitRefuses();
        nextAnswers();
        nextOfNone();
        waitingAnswers();
        waitingRefuses();
        weedAnswers();
        weedLikeOnes();
        firstOfLikeOnes();
        weedRefuses();
        swapAnswers();
        swapRefuses();
        checks.end();
    }

    private static SignTables line(int... gains) {
        SignTables x = Checks.reading(TEXT);
        for (int k : gains) {
            x.await(k);
        }
        return x;
    }

    private static void isLine(SignTables x, int... gains) {
        checks.due("count(0)", x.count(0), gains.length);
        for (int i = 0; i < 17; i++) {
            checks.due("waiting(" + i + ")", x.waiting(i), i < gains.length ? gains[i] + 1000 : -1);
        }
    }

    private static int[] sixteen() {
        int[] gains = new int[16];
        for (int i = 0; i < 16; i++) {
            gains[i] = i % 2 == 0 ? 100 - i : i - 100;
        }
        return gains;
    }

    // Terms 5: "WAITING are numbers K, one behind the other (16 at most; none at first)."
    private static void sixteenAtMost() {
        isLine(new SignTables());
        SignTables x = line(sixteen());
        isLine(x, sixteen());
        checks.due("the 17th", x.await(0), -4);
        isLine(x, sixteen());
        checks.due("next", x.next(), 15);
        checks.due("the 16th again", x.await(7), 16);
        checks.due("it is the last", x.waiting(15), 1007);
        checks.due("the 17th again", x.await(7), -4);
    }

    // Promise 23: "K = k is the last of those WAITING: how many there are."
    private static void awaitAnswers() {
        SignTables x = line();
        checks.due("await(-100)", x.await(-100), 1);
        checks.due("await(100)", x.await(100), 2);
        checks.due("await(100) again", x.await(100), 3);
        isLine(x, -100, 100, 100);
        checks.due("K stays", x.count(4), 1000);
    }

    // Promise 23: "BAD; FULL."
    private static void awaitRefuses() {
        SignTables x = line();
        SignTables full = line(sixteen());
        for (int k : new int[] {-101, 101, LEAST, MOST}) {
            checks.due("await(" + k + ")", x.await(k), -2);
            checks.due("await(" + k + ") when full", full.await(k), -2);
        }
        isLine(x);
        checks.due("full", full.await(-100), -4);
        isLine(full, sixteen());
    }

    // Promise 24: "The first of those WAITING is none of them any more; K is that: how many there are."
    private static void nextAnswers() {
        SignTables x = line(100, -100);
        checks.due("next", x.next(), 1);
        checks.due("K", x.count(4), 1100);
        isLine(x, -100);
        checks.due("the last", x.next(), 0);
        checks.due("K", x.count(4), 900);
        isLine(x);
        checks.due("C", x.of(2, 0), -100);
    }

    // Promise 24: "STATE: nobody is WAITING."
    private static void nextOfNone() {
        SignTables x = line();
        x.gain(9);
        checks.due("next of none", x.next(), -3);
        checks.due("K stays", x.count(4), 1009);
        x.await(3);
        x.next();
        checks.due("next of none again", x.next(), -3);
        checks.due("K stays", x.count(4), 1003);
        isLine(x);
    }

    // Promise 25: "The i-th of those WAITING (the first: 0) and 1000."
    private static void waitingAnswers() {
        SignTables x = line(sixteen());
        checks.due("the first", x.waiting(0), 1100);
        checks.due("the last", x.waiting(15), 915);
        checks.due("-100", line(-100).waiting(0), 900);
    }

    // Promise 25: "NONE."
    private static void waitingRefuses() {
        for (int i : new int[] {-1, 1, 15, 16, LEAST, MOST}) {
            checks.due("waiting(" + i + ")", line(5).waiting(i), -1);
        }
        checks.due("of none", line().waiting(0), -1);
        checks.due("behind sixteen", line(sixteen()).waiting(16), -1);
    }

    // Promise 26: "Of those WAITING all that are STEADY (how 1), that are not (0), all that were there ahead already
    // (2) are none of them any more: how many these were."
    private static void weedAnswers() {
        SignTables x = line(0, 1, 5, 6, 5);
        checks.due("steady", x.weed(0, 1), 3);
        isLine(x, 0, 6);
        checks.due("all that are left", x.weed(0, 0), 2);
        isLine(x);
        for (int how = 0; how < 3; how++) {
            checks.due("of none", line().weed(0, how), 0);
            checks.due("of none", line().weed(1, how), 0);
        }
        x = line(1, 2, 3);
        checks.due("none of them", x.weed(0, 0), 0);
        isLine(x, 1, 2, 3);
        checks.due("all of them", x.weed(0, 1), 3);
        isLine(x);
        x = line(1, 2, 3);
        checks.due("by the circle none is", x.weed(1, 1), 0);
        checks.due("by the circle all are not", x.weed(1, 0), 3);
        isLine(x);
        x = line(5, 5, 5, 5, 5, 5, 5, 5, 5, 5, 5, 5, 5, 5, 5, 5);
        checks.due("sixteen", x.weed(0, 1), 16);
        isLine(x);
        x = line(5, 0);
        x.gain(0);
        checks.due("K itself does not matter", x.weed(0, 1), 1);
        isLine(x, 0);
        checks.due("K stays", x.count(4), 1000);
    }

    // Promise 26: "all that were there ahead already (2)"
    private static void weedLikeOnes() {
        SignTables x = line(5, -5, 5, -5, 0, 0, 5);
        checks.due("like ones", x.weed(1, 2), 4);
        isLine(x, 5, -5, 0);
        checks.due("none any more", x.weed(0, 2), 0);
        isLine(x, 5, -5, 0);
    }

    // In doubt: "weed(.., 2) takes each but the first of like ones."
    private static void firstOfLikeOnes() {
        SignTables x = line(7, 8, 7, 7, 8, 9);
        checks.due("weed", x.weed(0, 2), 3);
        isLine(x, 7, 8, 9);
        x = line(4, 4, 4, 4, 4, 4, 4, 4, 4, 4, 4, 4, 4, 4, 4, 4);
        checks.due("sixteen", x.weed(0, 2), 15);
        isLine(x, 4);
    }

    // Promise 26: "BAD: kind, how."
    private static void weedRefuses() {
        SignTables x = line(5, 5, 0);
        for (int wrong : new int[] {-1, LEAST, MOST}) {
            checks.due("kind " + wrong, x.weed(wrong, 1), -2);
            checks.due("kind " + wrong, x.weed(wrong, 2), -2);
            checks.due("how " + wrong, x.weed(0, wrong), -2);
            checks.due("of none", line().weed(0, wrong), -2);
        }
        checks.due("kind 2", x.weed(2, 2), -2);
        checks.due("how 3", x.weed(0, 3), -2);
        checks.due("how 3", x.weed(1, 3), -2);
        isLine(x, 5, 5, 0);
    }

    // Promise 27: "Those WAITING stand the other way round (how 0), by size, the lesser first (1), the first of them
    // is the last (2): how many are WAITING."
    private static void swapAnswers() {
        for (int how = 0; how < 3; how++) {
            SignTables x = line();
            checks.due("of none", x.swap(how), 0);
            isLine(x);
            x = line(-3);
            checks.due("of one", x.swap(how), 1);
            isLine(x, -3);
        }
        SignTables x = line(5, -100, 5, 100, 0);
        checks.due("the other way round", x.swap(0), 5);
        isLine(x, 0, 100, 5, -100, 5);
        checks.due("the first is the last", x.swap(2), 5);
        isLine(x, 100, 5, -100, 5, 0);
        checks.due("by size", x.swap(1), 5);
        isLine(x, -100, 0, 5, 5, 100);
        x = line(1, 2);
        x.swap(2);
        isLine(x, 2, 1);
        x.swap(0);
        isLine(x, 1, 2);
        x = line(1, 2, 3, 4);
        x.swap(0);
        isLine(x, 4, 3, 2, 1);
        x.swap(1);
        isLine(x, 1, 2, 3, 4);
        x = line(sixteen());
        checks.due("sixteen", x.swap(2), 16);
        checks.due("the first is the last", x.waiting(15), 1100);
        checks.due("sixteen", x.swap(0), 16);
        checks.due("the last is the first", x.waiting(0), 1100);
        checks.due("sixteen", x.swap(1), 16);
        for (int i = 1; i < 16; i++) {
            checks.holds("by size", x.waiting(i - 1) < x.waiting(i));
        }
    }

    // Promise 27: "BAD."
    private static void swapRefuses() {
        SignTables x = line(3, 1, 2);
        for (int how : new int[] {-1, 3, LEAST, MOST}) {
            checks.due("swap(" + how + ")", x.swap(how), -2);
            checks.due("swap(" + how + ") of none", line().swap(how), -2);
        }
        isLine(x, 3, 1, 2);
    }
}
