/** Counts the answers that are not as due; a test ends by end(). */
final class Checks {
    static final long NO = Long.MIN_VALUE;
    private int wrong;
    private int told;

    void due(String call, long got, long want) {
        if (got == want) {
            return;
        }
        wrong++;
        if (told < 20) {
            told++;
            System.out.println(call + " answered " + got + ", due is " + want);
        }
    }

    void holds(String what, boolean is) {
        due(what, is ? 1 : 0, 1);
    }

    void end() {
        if (wrong != 0) {
            System.out.println(wrong + " answers are not as due");
            System.exit(1);
        }
    }

    /** Feeds a text and reads it. */
    static int read(SignTables x, String text) {
        for (int i = 0; i < text.length(); i++) {
            x.feed(text.charAt(i));
        }
        return x.read();
    }

    /** A new object whose P, Q are as a text says. */
    static SignTables reading(String text) {
        SignTables x = new SignTables();
        if (read(x, text) < 0) {
            throw new IllegalStateException("no text: " + text);
        }
        return x;
    }

    /** A new object whose P is told from power 0 on. */
    static SignTables with(int... p) {
        SignTables x = new SignTables();
        for (int i = 0; i < 7; i++) {
            x.set(0, i, i < p.length ? p[i] : 0);
        }
        return x;
    }

    /** All that can be asked about what calls change, in one text. */
    static String stateOf(SignTables x) {
        StringBuilder all = new StringBuilder();
        for (int i = 0; i < 7; i++) {
            all.append(x.of(0, i)).append(' ').append(x.of(1, i)).append(' ');
        }
        for (int what = 0; what < 6; what++) {
            all.append("n").append(x.count(what)).append(' ');
        }
        for (int i = 0; i < 16; i++) {
            all.append(x.waiting(i)).append(' ');
        }
        for (int i = 0; i < 6; i++) {
            for (int what = 0; what < 3; what++) {
                all.append("f").append(x.factored(i, what)).append(' ');
            }
        }
        for (int tray = 0; tray < 4; tray++) {
            for (int i = 0; i < 30; i++) {
                all.append(x.get(tray, i)).append(' ');
            }
        }
        return all.toString();
    }
}
