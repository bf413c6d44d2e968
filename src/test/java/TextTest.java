import java.util.regex.Matcher;
import java.util.regex.Pattern;

/** Promises 5 and 6: the tape and the texts on it. */
public final class TextTest {
    private static final Checks checks = new Checks();

    public static void main(String[] args) {
        feed();
        texts();
        together();
        faults();
        greatCoefficients();
        faultChangesNothing();
        everyPrefix();
        againstExpressions();
        checks.end();
    }

    private static void feed() {
        SignTables x = new SignTables();
        checks.due("feed(-1)", x.feed(-1), -2);
        checks.due("feed(128)", x.feed(128), -2);
        checks.due("feed(0)", x.feed(0), 1);
        checks.due("feed(127)", x.feed(127), 2);
        checks.due("read()", x.read(), -100);
        for (int i = 1; i <= 60; i++) {
            checks.due("feed", x.feed('1' - 1 + i % 2), i);
        }
        checks.due("feed beyond", x.feed('1'), -4);
        checks.due("feed beyond and wrong", x.feed(128), -2);
        checks.due("count(1)", x.count(1), 60);
        checks.due("read()", x.read(), -102);
        checks.due("count(1)", x.count(1), 0);
        checks.due("feed", x.feed('1'), 1);
    }

    private static void isRead(String text, int terms, int[] p, int[] q) {
        SignTables x = new SignTables();
        x.set(0, 5, 50);
        x.set(1, 4, 40);
        x.gain(3);
        checks.due("read " + text, Checks.read(x, text), terms);
        for (int i = 0; i < 7; i++) {
            checks.due("P " + i + " of " + text, x.of(0, i), i < p.length ? p[i] : 0);
            checks.due("Q " + i + " of " + text, x.of(1, i), i < q.length ? q[i] : 0);
        }
        checks.due("K stays", x.count(4), 1003);
        checks.due("texts", x.count(2), 1);
        checks.due("tape", x.count(1), 0);
    }

    private static void texts() {
        int[] none = {};
        isRead("0", 1, none, none);
        isRead("7", 1, new int[] {7}, none);
        isRead("-99", 1, new int[] {-99}, none);
        isRead("s", 1, new int[] {0, 1}, none);
        isRead("-s6", 1, new int[] {0, 0, 0, 0, 0, 0, -1}, none);
        isRead("07s1", 1, new int[] {0, 7}, none);
        isRead("00", 1, none, none);
        isRead("0s6", 1, none, none);
        isRead("12s-34s2+5", 3, new int[] {5, 12, -34}, none);
        isRead("s+K(1)", 2, new int[] {0, 1}, new int[] {1});
        isRead("s-K(1-2s)", 3, new int[] {0, 1}, new int[] {-1, 2});
        isRead("-1+K(-s3-s)", 3, new int[] {-1}, new int[] {0, -1, 0, -1});
        isRead("s-K(-99s5)", 2, new int[] {0, 1}, new int[] {0, 0, 0, 0, 0, 99});
        StringBuilder longest = new StringBuilder("s");
        for (int i = 0; i < 29; i++) {
            longest.append("+s");
        }
        longest.append("2");
        isRead(longest.toString(), 30, new int[] {0, 29, 1}, none);
    }

    private static void together() {
        int[] none = {};
        isRead("1+2+3-4", 4, new int[] {2}, none);
        isRead("s2-s2+s-s", 4, none, none);
        isRead("60s+39s-99s-99s", 4, new int[] {0, -99}, none);
        isRead("1+K(1+s+1+s)", 5, new int[] {1}, new int[] {2, 2});
    }

    private static void isFault(String text, int fault) {
        SignTables x = Checks.reading("2s+K(3)");
        checks.due("read " + text, Checks.read(x, text), -100 - fault);
        checks.due("P after " + text, x.of(0, 1), 2);
        checks.due("Q after " + text, x.of(1, 0), 3);
        checks.due("texts", x.count(2), 1);
        checks.due("tape", x.count(1), 0);
    }

    private static void faults() {
        isFault("", 0);
        isFault("-", 1);
        isFault("+s", 0);
        isFault("--s", 1);
        isFault("x", 0);
        isFault("S", 0);
        isFault(" s", 0);
        isFault("s ", 1);
        isFault("123", 2);
        isFault("12s12", 4);
        isFault("s0", 1);
        isFault("s7", 1);
        isFault("ss", 1);
        isFault("s+", 2);
        isFault("s+-1", 2);
        isFault("s++1", 2);
        isFault("K(1)", 0);
        isFault("-K(1)", 1);
        isFault("sK(1)", 1);
        isFault("s+K", 3);
        isFault("s+K1", 3);
        isFault("s+K(", 4);
        isFault("s+K()", 4);
        isFault("s+K(+1)", 4);
        isFault("s+K(-", 5);
        isFault("s+K(1", 5);
        isFault("s+K(1+", 6);
        isFault("s+K(1+)", 6);
        isFault("s+K(1+K(1))", 6);
        isFault("s+K(K", 4);
        isFault("s+K(1))", 6);
        isFault("s+K(1)+1", 6);
        isFault("s+K(s)s", 6);
        isFault("s)", 1);
        isFault("(s)", 0);
        isFault("1+2K(1)", 3);
        isFault("s2+3K", 4);
        isFault("s+k(1)", 2);
    }

    private static void greatCoefficients() {
        isFault("99+1", 3);
        isFault("99s+s", 4);
        isFault("-99s-s", 5);
        isFault("99s+1s1", 4);
        isFault("60+60-60", 3);
        isFault("99+s+01", 5);
        isFault("s+K(99s2+s2)", 9);
        isFault("s-K(-50-50)", 8);
        // What follows the term by which it is beyond is not looked at.
        isFault("99s+sx", 4);
        isFault("99s+s7", 4);
        isFault("99s+s+", 4);
        isFault("99+1K", 3);
        // What is ahead of it is.
        isFault("99s+x+s", 4);
        isFault("99s+9s+", 4);
        // The whole term counts: 9s2 is none of the power 0.
        isFault("99+9s2x", 6);
    }

    private static void faultChangesNothing() {
        SignTables x = Checks.reading("2s+K(3)");
        x.await(4);
        x.factor(0, 1, 0);
        String before = Checks.stateOf(x);
        Checks.read(x, "5s2+K(6s+x)");
        Checks.read(x, "99s3+s3");
        checks.holds("a fault changes nothing", before.equals(Checks.stateOf(x)));
    }

    // A text cut off is a text, or ends too early.
    private static void everyPrefix() {
        String text = "-12s5+s-K(-7s2+s6-08)";
        for (int n = 1; n <= text.length(); n++) {
            SignTables x = new SignTables();
            int got = Checks.read(x, text.substring(0, n));
            boolean isText = n == 2 || n >= 3 && n <= 5 || n == 7 || n == 21;
            checks.holds("prefix " + n + ": " + got, isText ? got > 0 : got == -100 - n);
        }
    }

    private static final String TERM = "(?:\\d\\d?(?:s[1-6]?)?|s[1-6]?)";
    private static final String TERMS = "-?" + TERM + "(?:[+-]" + TERM + ")*";
    private static final Pattern TEXT = Pattern.compile(TERMS + "(?:[+-]K\\(" + TERMS + "\\))?");
    private static final Pattern SIGNED = Pattern.compile("([+-]?)((\\d\\d?)?(s([1-6])?)?)");

    // A text begins so, if the expression fits, or comes to the end of it before it can tell.
    private static int misfit(String text) {
        for (int n = 1; n <= text.length(); n++) {
            Matcher begun = TEXT.matcher(text.substring(0, n));
            if (!begun.matches() && !begun.hitEnd()) {
                return n - 1;
            }
        }
        return TEXT.matcher(text).matches() ? -1 : text.length();
    }

    private static int expected(String text, int[][] into) {
        int misfit = misfit(text);
        String sound = misfit < 0 ? text : text.substring(0, misfit);
        int terms = 0;
        int which = 0;
        int turn = 1;
        Matcher m = SIGNED.matcher(sound);
        for (int at = 0; at < sound.length(); ) {
            if (sound.charAt(at) == 'K' || sound.charAt(at) == '(' || sound.charAt(at) == ')') {
                turn = sound.charAt(at) == 'K' && sound.charAt(at - 1) == '-' ? -1 : turn;
                which = 1;
                at++;
                continue;
            }
            m.region(at, sound.length());
            m.lookingAt();
            at = m.end();
            if (m.group(2).isEmpty()) {
                continue;
            }
            terms++;
            int number = m.group(3) == null ? 1 : Integer.parseInt(m.group(3));
            int power = m.group(4) == null ? 0 : m.group(5) == null ? 1 : Integer.parseInt(m.group(5));
            into[which][power] += m.group(1).equals("-") ? -number : number;
            if (Math.abs(into[which][power]) > 99) {
                return -100 - m.start(2);
            }
        }
        for (int power = 0; power < 7; power++) {
            into[1][power] *= turn;
        }
        return misfit < 0 ? terms : -100 - misfit;
    }

    private static String randomText(Polys random) {
        String[] parts = {"s", "s", "+", "-", "+s", "-9", "+99s", "99", "5s2", "+K(", ")", "-K(", "K", "(", "1", "0",
            "7", "s6", "-s3", "x", "+60s", "-60s"};
        StringBuilder text = new StringBuilder();
        int n = random.number(0, 9);
        for (int i = 0; i < n; i++) {
            text.append(parts[random.number(0, parts.length - (random.number(0, 2) == 0 ? 1 : 4))]);
        }
        return text.toString();
    }

    private static void againstExpressions() {
        Polys random = new Polys(59);
        int texts = 0;
        int beyond = 0;
        for (int round = 0; round < 40000; round++) {
            String text = randomText(random);
            int[][] into = new int[2][7];
            int due = expected(text, into);
            SignTables x = new SignTables();
            checks.due("read " + text, Checks.read(x, text), due);
            texts += due > 0 ? 1 : 0;
            beyond += due < 0 && misfit(text) != -100 - due ? 1 : 0;
            for (int power = 0; power < 7 && due > 0; power++) {
                checks.due("P of " + text, x.of(0, power), into[0][power]);
                checks.due("Q of " + text, x.of(1, power), into[1][power]);
            }
        }
        checks.holds("there were texts: " + texts, texts > 1000);
        checks.holds("there were coefficients beyond: " + beyond, beyond > 300);
    }
}
