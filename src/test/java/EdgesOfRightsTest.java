/** Boundary cases of roots on the right by each gain, a test for each sentence. */
public final class EdgesOfRightsTest {
    private static final Checks checks = new Checks();
    private static final int LEAST = Integer.MIN_VALUE;
    private static final int MOST = Integer.MAX_VALUE;

    public static void main(String[] args) {
        eachGainInThought();
        greatOnes();
        jumpsAboveTheLeast();
        jumpsFromAndToGreat();
        bestLeavesOutGreat();
        bestIsNearest();
        bestOfTwo();
        rightsAnswers();
        rightsRefuses();
        jumpsAnswers();
        jumpAnswers();
        jumpRefuses();
        bestAnswers();
        bestOfNone();
        checks.end();
    }

    /** GREAT by -100 and -99, 5 from -98 on, 3 from -1 on, 4 from 2 on, 5 from 12 on. */
    private static SignTables greatAtFirst() {
        return of(new int[] {-93, -11, -80, 87, -29, -60, 30}, 8, -45, 92, 12, -63, 32, -16);
    }

    private static SignTables of(int[] p, int... q) {
        SignTables x = Checks.with(p);
        for (int i = 0; i < q.length; i++) {
            x.set(1, i, q[i]);
        }
        return x;
    }

    /** 3 but by 0 (2) and by 91, 95 (GREAT; 92 .. 94 are not). */
    private static SignTables greatTwice() {
        return of(new int[] {-10, -78, -68, -61, -15, 45, -15}, -55, -7, 50, -3, 21, -5, 50);
    }

    // Terms 6: "RIGHTS: RIGHT of PLAIN for each K from -100 to 100, in thought"
    private static void eachGainInThought() {
        SignTables x = of(new int[] {0, 1}, 1);
        x.gain(77);
        for (int k = -100; k <= 100; k++) {
            checks.due("rights(" + k + ")", x.rights(k), k < 0 ? 1 : 0);
        }
        checks.due("K stays", x.count(4), 1077);
        x = Checks.with();
        checks.due("without DEGREE", x.rights(-100), 0);
        checks.due("jumps without DEGREE", x.jumps(), 0);
        checks.due("best without DEGREE", x.best(), 1000);
        x = of(new int[] {-1, 1}, 0, 1);
        checks.due("where the highest goes", x.rights(-1), 0);
        checks.due("beside it", x.rights(-2), 0);
        checks.due("beside it", x.rights(0), 1);
    }

    // Terms 6: "(GREAT, where its SIGN ROWS are)"
    private static void greatOnes() {
        SignTables x = greatTwice();
        for (int k : new int[] {90, 91, 92, 94, 95, 96, 100, -100}) {
            x.gain(k);
            checks.due("rights(" + k + ")", x.rights(k), k == 91 || k == 95 ? -7 : 3);
            checks.due("roots by " + k, x.roots(0, 0), k == 91 || k == 95 ? -7 : 3);
        }
    }

    // Terms 6: "JUMPS: those K above -100 at which that is otherwise than at K less 1, the least first."
    private static void jumpsAboveTheLeast() {
        SignTables x = of(new int[] {99, 1}, 1);
        checks.due("at -99", x.jumps(), 1);
        checks.due("at -99", x.jump(0), 901);
        x = of(new int[] {-99, 1}, 1);
        checks.due("at 99", x.jump(0), 1099);
        // s s s, 9 s s, 11 s and K: 0 to 99 (on the axis by 0 and 99).
        x = of(new int[] {0, 11, 9, 1}, 1);
        checks.due("two", x.jumps(), 2);
        checks.due("the least first", x.jump(0), 1000);
        checks.due("at 100", x.jump(1), 1100);
        // 99 s and K: no gain but 0 at which it is otherwise than by -100.
        x = of(new int[] {0, 99}, 1);
        checks.due("one alone", x.jumps(), 1);
        // 7 s s s, K of s s, 4 s and 57: none right by 100 alone; turned about, by -100 alone.
        x = of(new int[] {57, 4, 0, 7}, 0, 0, 1);
        checks.due("100 alone", x.jumps(), 1);
        checks.due("at 100", x.jump(0), 1100);
        x = of(new int[] {57, 4, 0, 7}, 0, 0, -1);
        checks.due("-100 alone is none", x.jumps(), 1);
        checks.due("at -99", x.jump(0), 901);
    }

    // In doubt: "JUMPS are from and to GREAT, too."
    private static void jumpsFromAndToGreat() {
        SignTables x = greatTwice();
        int[] due = {0, 1, 91, 92, 95, 96};
        checks.due("jumps", x.jumps(), 6);
        for (int i = 0; i < 6; i++) {
            checks.due("jump(" + i + ")", x.jump(i), due[i] + 1000);
        }
        x = greatAtFirst();
        checks.due("-100 is great", x.rights(-100), -7);
        checks.due("-99 is", x.rights(-99), -7);
        checks.due("from one great to the other is none", x.jump(0), 902);
        checks.due("those behind it", x.jumps(), 4);
    }

    // Terms 6: "BEST: the K with the least RIGHT (where it is GREAT there is none)"
    private static void bestLeavesOutGreat() {
        SignTables x = greatTwice();
        checks.due("the least but great", x.best(), 1000);
        x = greatAtFirst();
        checks.due("the least but great", x.rights(1), 3);
        checks.due("by -1, 0, 1", x.best(), 1000);
        x = of(new int[] {66, 42, -88, 80, 92, -51, 48}, 20, 13, 7, -41, 4, 9);
        checks.due("great by 86", x.rights(86), -7);
        checks.due("from 4 on", x.best(), 1004);
    }

    // Terms 6: "of several that nearest to 0"
    private static void bestIsNearest() {
        checks.due("all are alike", Checks.with(-1, 1).best(), 1000);
        checks.due("from 5 on", of(new int[] {-5, 1}, 1).best(), 1005);
        checks.due("to -5", of(new int[] {-5, 1}, -1).best(), 995);
        checks.due("100 alone", of(new int[] {-99, 1}, 1).best(), 1099);
        checks.due("-99 alone", of(new int[] {-99, 1}, -1).best(), 901);
        checks.due("0 lies within", of(new int[] {99, 1}, 1).best(), 1000);
    }

    // Terms 6: "of two the lesser."
    private static void bestOfTwo() {
        SignTables x = of(new int[] {2, -1, 4}, -2, -2, 2, 2);
        checks.due("-1 and 1 are alike", x.rights(-1), x.rights(1));
        checks.holds("0 is worse", x.rights(0) > x.rights(1));
        checks.due("the lesser", x.best(), 999);
        x = of(new int[] {4, 2, 4, 6, -3}, -1, 0, -1, 1);
        checks.due("-4 and 4 are alike", x.rights(-4), x.rights(4));
        checks.due("the lesser", x.best(), 996);
    }

    // Promise 33: "RIGHTS for K = k."
    private static void rightsAnswers() {
        SignTables x = of(new int[] {0, 1}, 1);
        checks.due("-100", x.rights(-100), 1);
        checks.due("100", x.rights(100), 0);
        checks.due("six", Checks.with(-1, 6, -15, 20, -15, 6, -1).rights(0), 6);
    }

    // Promise 33: "BAD; GREAT."
    private static void rightsRefuses() {
        for (int k : new int[] {-101, 101, LEAST, MOST}) {
            checks.due("rights(" + k + ")", new SignTables().rights(k), -2);
            checks.due("rights(" + k + ")", greatAtFirst().rights(k), -2);
        }
        checks.due("great", greatAtFirst().rights(-100), -7);
        checks.due("great", greatTwice().rights(91), -7);
        checks.due("not great", greatTwice().rights(92), 3);
    }

    // Promise 34: "How many JUMPS."
    private static void jumpsAnswers() {
        checks.due("none", new SignTables().jumps(), 0);
        checks.due("none", Checks.with().jumps(), 0);
        checks.due("one", of(new int[] {0, 1}, 1).jumps(), 1);
        // (1 and K) s less 1: its root is left by -2, there is none by -1, right by 0.
        checks.due("where the highest goes", of(new int[] {-1, 1}, 0, 1).jumps(), 1);
    }

    // Promise 35: "The i-th of the JUMPS (the first: 0) and 1000."
    private static void jumpAnswers() {
        SignTables x = of(new int[] {0, 2, 3, 1}, 1);
        checks.due("the first", x.jump(0), 1000);
        checks.due("the second", x.jump(1), 1007);
    }

    // Promise 35: "NONE."
    private static void jumpRefuses() {
        SignTables x = of(new int[] {0, 2, 3, 1}, 1);
        for (int i : new int[] {-1, 2, 200, LEAST, MOST}) {
            checks.due("jump(" + i + ")", x.jump(i), -1);
        }
        checks.due("of none", new SignTables().jump(0), -1);
    }

    // Promise 36: "BEST and 1000."
    private static void bestAnswers() {
        checks.due("0", new SignTables().best(), 1000);
        checks.due("-99", of(new int[] {-99, 1}, -1).best(), 901);
        checks.due("99", of(new int[] {-99, 1}, 1).best(), 1099);
        checks.due("100", of(new int[] {57, 4, 0, 7}, 0, 0, 1).best(), 1100);
        checks.due("-100", of(new int[] {57, 4, 0, 7}, 0, 0, -1).best(), 900);
        checks.due("from 1 on or to -1", of(new int[] {2, -1, 4}, -2, -2, 2, 2).best(), 999);
    }

    // Promise 36: "NONE: all are GREAT." (by K = 0 the document's limits allow no such P)
    private static void bestOfNone() {
        if (!Inside.isOpen()) {
            return;
        }
        SignTables x = Inside.with(1, 1L << 32, 1L << 31, 1);
        checks.due("great", x.rights(0), -7);
        checks.due("great", x.rights(-100), -7);
        checks.due("none", x.best(), -1);
        checks.due("no jumps", x.jumps(), 0);
        checks.due("no jump", x.jump(0), -1);
    }
}
