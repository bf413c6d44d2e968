/** Boundary cases of the tape and of texts, a test for each sentence. */
public final class EdgesOfTextTest {
    private static final Checks checks = new Checks();

    public static void main(String[] args) {
        sixtyBytes();
        termsAndGained();
        signsOfTerms();
        singleTerms();
        numbers();
        powers();
        powerByPower();
        gained();
        firstByteThatDoesNotFit();
        endsTooEarly();
        beyond();
        beyondAheadOfWhatFollows();
        countsInParentheses();
        beginsWithNought();
        feedBytes();
        feedRefuses();
        readEmptiesTheTape();
        readKeepsGain();
        readCounts();
        readFaults();
        checks.end();
    }

    private static void isText(String text, int terms, int[] p, int... q) {
        SignTables x = Checks.with(9, 9, 9, 9, 9, 9, 9);
        x.set(1, 6, 9);
        checks.due("read " + text, Checks.read(x, text), terms);
        for (int i = 0; i < 7; i++) {
            checks.due("P " + i + " of " + text, x.of(0, i), i < p.length ? p[i] : 0);
            checks.due("Q " + i + " of " + text, x.of(1, i), i < q.length ? q[i] : 0);
        }
    }

    private static int[] p(int... p) {
        return p;
    }

    private static void isFault(String text, int place) {
        SignTables x = Checks.reading("7s3+K(5)");
        String before = Checks.stateOf(x);
        checks.due("read " + text, Checks.read(x, text), -100 - place);
        checks.holds("nothing is changed by " + text, before.equals(Checks.stateOf(x)));
    }

    private static String sums(int n) {
        StringBuilder all = new StringBuilder("s");
        for (int i = 1; i < n; i++) {
            all.append("+s");
        }
        return all.toString();
    }

    // Terms 5: "A TEXT is read from THE TAPE (60 bytes at most)"
    private static void sixtyBytes() {
        isText(sums(28) + "+99s2", 29, p(0, 28, 99));
        checks.due("its size", (sums(28) + "+99s2").length(), 60);
        isFault(sums(30) + "+", 60);
        // The 61st and the 62nd byte are refused, so what is read ends too early.
        isFault(sums(30) + "+7s", 60);
        SignTables x = new SignTables();
        Checks.read(x, sums(30));
        for (int i = 1; i <= 60; i++) {
            checks.due("60 bytes again", x.feed('s'), i);
        }
        checks.due("the 61st", x.feed('s'), -4);
    }

    // Terms 5: "TERMS; or TERMS, + or -, K, (, TERMS, )."
    private static void termsAndGained() {
        isText("1", 1, p(1));
        isText("1+K(2)", 2, p(1), 2);
        isText("1-K(2)", 2, p(1), -2);
        isFault("K(2)", 0);
        isFault("-K(2)", 1);
        isFault("+K(2)", 0);
        isFault("1K(2)", 1);
        isFault("1+(2)", 2);
        isFault("1+K2)", 3);
        isFault("1+K((2))", 4);
        isFault("1+K(2)+3", 6);
        isFault("1+K(2)+K(3)", 6);
        isFault("1+K(2))", 6);
        isFault("1+k(2)", 2);
        isFault("1+-K(2)", 2);
    }

    // Terms 5: "TERMS: a - or none; TERM; any number of + or -, and TERM."
    private static void signsOfTerms() {
        isText("-5", 1, p(-5));
        isText("5-5", 2, p(0));
        isText("-5-5", 2, p(-10));
        isText("5+K(-2)", 2, p(5), -2);
        isText("5+K(1+1-3)", 4, p(5), -1);
        isFault("+5", 0);
        isFault("--5", 1);
        isFault("-+5", 1);
        isFault("5++5", 2);
        isFault("5+-5", 2);
        isFault("5+K(+2)", 4);
        isFault("5+K(--2)", 5);
        isFault("5+K()", 4);
        isFault("5+K(1+K(1))", 6);
    }

    // Terms 5: "TERM: NUMBER; NUMBER, s, POWER or none; s, POWER or none."
    private static void singleTerms() {
        isText("3", 1, p(3));
        isText("3s", 1, p(0, 3));
        isText("3s4", 1, p(0, 0, 0, 0, 3));
        isText("s", 1, p(0, 1));
        isText("s4", 1, p(0, 0, 0, 0, 1));
        isText("-s", 1, p(0, -1));
        isFault("ss", 1);
        isFault("3ss", 2);
        isFault("s4s", 2);
        isFault("3s44", 3);
        isFault("S", 0);
        isFault("s^2", 1);
    }

    // Terms 5: "NUMBER: 1 or 2 digits."
    private static void numbers() {
        isText("1", 1, p(1));
        isText("99", 1, p(99));
        isText("12s", 1, p(0, 12));
        isFault("123", 2);
        isFault("123s", 2);
        isFault("1+K(100)", 6);
        isFault("/", 0);
        isFault(":", 0);
        isFault("1:", 1);
    }

    // Terms 5: "POWER: 1 .. 6 (none told: 1)."
    private static void powers() {
        isText("s", 1, p(0, 1));
        isText("s1", 1, p(0, 1));
        isText("s6", 1, p(0, 0, 0, 0, 0, 0, 1));
        isFault("s0", 1);
        isFault("s7", 1);
        isFault("2s0", 2);
        isFault("2s7", 2);
        isFault("s11", 2);
    }

    // Terms 5: "P is what the first TERMS say, POWER by POWER together"
    private static void powerByPower() {
        isText("1+s+2+2s+s6-3", 6, p(0, 3, 0, 0, 0, 0, 1));
        isText("s-s", 2, p(0));
        isText("99s6-99s6-99s6", 3, p(0, 0, 0, 0, 0, 0, -99));
    }

    // Terms 5: "Q what those between ( ) say (- ahead of K: turned about; there are none: 0)."
    private static void gained() {
        isText("0+K(99s6-1)", 3, p(0), -1, 0, 0, 0, 0, 0, 99);
        isText("0-K(99s6-1)", 3, p(0), 1, 0, 0, 0, 0, 0, -99);
        isText("0-K(0)", 2, p(0), 0);
        isText("s", 1, p(0, 1), 0, 0, 0, 0, 0, 0, 0);
        isText("0+K(s+s)", 3, p(0), 0, 2);
    }

    // Terms 5: "FAULT: the place (from 0) of the first byte with which none begins so"
    private static void firstByteThatDoesNotFit() {
        isFault("x", 0);
        isFault("sx", 1);
        isFault("s x", 1);
        isFault("s2+3s1-x", 7);
        isFault("s2+3s1-K(4s-x)", 12);
        isFault("s+K(s)x", 6);
        isFault("\u0000", 0);
        isFault("s\u007f", 1);
        isFault(sums(29) + "+sx", 59);
    }

    // Terms 5: "(THE TAPE's size, if it ends too early)"
    private static void endsTooEarly() {
        isFault("", 0);
        isFault("-", 1);
        isFault("s+", 2);
        isFault("s-", 2);
        isFault("s+K", 3);
        isFault("s+K(", 4);
        isFault("s+K(-", 5);
        isFault("s+K(9", 5);
        isFault("s+K(9s", 6);
        isFault("s+K(9s2", 7);
        isFault("s+K(9s2-", 8);
    }

    // Terms 5: "or, if that comes first, of the first byte of the TERM (its sign is none of it) by which a
    // COEFFICIENT is beyond -99 .. 99."
    private static void beyond() {
        isText("99+0", 2, p(99));
        isText("98+1", 2, p(99));
        isFault("99+1", 3);
        isText("-98-1", 2, p(-99));
        isFault("-99-1", 4);
        isFault("-99-01", 4);
        isFault("-99-01s0", 7);
        isFault("s6+99s6", 3);
        isFault("99s+1s1", 4);
        isText("99s+1", 2, p(1, 99));
        isText("99s+s2", 2, p(0, 99, 1));
        isText("99+K(99)", 2, p(99), 99);
        isFault("99+K(99+1)", 8);
        isFault("99-K(-99-1)", 9);
        isFault("50+50-50", 3);
        isFault("x+99+1", 0);
        isFault("99+x+1", 3);
    }

    // In doubt: "In a text the TERM by which a COEFFICIENT is beyond is the FAULT, ahead of what follows;"
    private static void beyondAheadOfWhatFollows() {
        isFault("99+1x", 3);
        isFault("99+1+", 3);
        isFault("99+12x", 3);
        isFault("99s+ss", 4);
        isFault("99s+s0", 4);
        isFault("99+K(99+1", 8);
        isFault("99+1+K", 3);
        isFault("99+1+99s9", 3);
    }

    // In doubt: "read() counts TERMS in ( ), too;"
    private static void countsInParentheses() {
        isText("1+K(1)", 2, p(1), 1);
        isText("1+K(1+s-s+s2)", 5, p(1), 1, 0, 1);
        isText("s+s+K(1)", 3, p(0, 2), 1);
    }

    // In doubt: "a NUMBER may begin with 0."
    private static void beginsWithNought() {
        isText("0", 1, p(0));
        isText("00", 1, p(0));
        isText("07", 1, p(7));
        isText("09s6", 1, p(0, 0, 0, 0, 0, 0, 9));
        isText("0s", 1, p(0));
        isFault("007", 2);
        isFault("000", 2);
    }

    // Promise 5: "A byte (0 .. 127) comes behind THE TAPE's: how many it has."
    private static void feedBytes() {
        SignTables x = new SignTables();
        checks.due("feed(0)", x.feed(0), 1);
        checks.due("feed(127)", x.feed(127), 2);
        checks.due("count(1)", x.count(1), 2);
        checks.due("read", x.read(), -100);
        checks.due("feed('1')", x.feed('1'), 1);
        checks.due("feed('s')", x.feed('s'), 2);
        checks.due("feed('2')", x.feed('2'), 3);
        checks.due("read", x.read(), 1);
        checks.due("in their order", x.of(0, 2), 1);
    }

    // Promise 5: "BAD; FULL."
    private static void feedRefuses() {
        SignTables x = new SignTables();
        for (int wrong : new int[] {-1, 128, Integer.MIN_VALUE, Integer.MAX_VALUE}) {
            checks.due("feed(" + wrong + ")", x.feed(wrong), -2);
        }
        checks.due("nothing came", x.count(1), 0);
        for (int i = 1; i <= 60; i++) {
            checks.due("feed", x.feed('s'), i);
        }
        checks.due("one more", x.feed('s'), -4);
        checks.due("a wrong one more", x.feed(-1), -2);
        checks.due("a wrong one more", x.feed(128), -2);
        checks.due("60 stay", x.count(1), 60);
    }

    // Promise 6: "THE TAPE, which is empty then (by a FAULT, too), is a TEXT"
    private static void readEmptiesTheTape() {
        SignTables x = new SignTables();
        checks.due("read", Checks.read(x, "2s"), 1);
        checks.due("empty", x.count(1), 0);
        checks.due("read of none", x.read(), -100);
        checks.due("P stays", x.of(0, 1), 2);
        checks.due("a fault", Checks.read(x, "3s+x"), -103);
        checks.due("empty", x.count(1), 0);
        checks.due("beyond", Checks.read(x, "99+99"), -103);
        checks.due("empty", x.count(1), 0);
        checks.due("a text behind faults", Checks.read(x, "4s"), 1);
        checks.due("P", x.of(0, 1), 4);
    }

    // Promise 6: "P and Q are so, K stays"
    private static void readKeepsGain() {
        SignTables x = Checks.reading("s+K(1)");
        x.gain(-100);
        checks.due("read", Checks.read(x, "s2+K(s)"), 2);
        checks.due("K", x.count(4), 900);
        checks.due("C", x.of(2, 1), -100);
        checks.due("P is that alone", x.of(0, 1), 0);
        checks.due("Q is that alone", x.of(1, 0), 0);
    }

    // Promise 6: "how many TERMS there are, each single TERM counted"
    private static void readCounts() {
        isText("0", 1, p(0));
        isText(sums(30), 30, p(0, 30));
        isText("s-s+s-s", 4, p(0));
        isText("0s6+0", 2, p(0));
    }

    // Promise 6: "-100 less the FAULT."
    private static void readFaults() {
        SignTables x = new SignTables();
        checks.due("at once", x.read(), -100);
        checks.due("behind the last", Checks.read(x, sums(30) + "-"), -160);
        checks.due("no text is counted", x.count(2), 0);
        checks.due("P stays", x.of(0, 1), 1);
    }
}
