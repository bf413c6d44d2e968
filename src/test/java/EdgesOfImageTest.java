import java.util.ArrayList;
import java.util.List;

/** Boundary cases of counts, of the image and of answers as such, a test for each sentence. */
public final class EdgesOfImageTest {
    private static final Checks checks = new Checks();
    private static final int LEAST = Integer.MIN_VALUE;
    private static final int MOST = Integer.MAX_VALUE;

    public static void main(String[] args) {
        whatAnImageKeeps();
        whatStaysByUndo();
        answersAreNumbers();
        refusedChangesNothing();
        readLeavesTheTapeEmpty();
        askedChangesNothing();
        firstThatIsNamed();
        noSuchNumber();
        countAnswers();
        countRefuses();
        imageAnswers();
        undoAnswers();
        undoAheadOfAny();
        checks.end();
    }

    /** An object of which each part is other than at first. */
    private static SignTables full() {
        SignTables x = Checks.reading("5s2-3+K(4s)");
        x.gain(-9);
        x.await(100);
        x.await(-4);
        x.factor(1, 2, 3);
        x.factor(0, 7, 0);
        x.tray(0, 0, 2);
        x.put(0, 1, 8);
        x.tray(1, 1, 2);
        x.feed('s');
        return x;
    }

    // Terms 5: "AN IMAGE keeps P, Q, K, FACTORS and those WAITING"
    private static void whatAnImageKeeps() {
        SignTables x = full();
        String before = Checks.stateOf(x);
        checks.due("image", x.image(), 2);
        for (int power = 0; power < 7; power++) {
            x.set(0, power, 50 + power);
            x.set(1, power, 60 + power);
        }
        x.gain(70);
        while (x.count(0) < 16) {
            x.await(x.count(0));
        }
        x.swap(0);
        while (x.count(5) < 6) {
            x.factor(3, 0, x.count(5));
        }
        x.unfactor(0);
        checks.due("undo", x.undo(), 2);
        checks.holds("all is as it was", before.equals(Checks.stateOf(x)));
        while (x.count(0) > 0) {
            x.next();
        }
        while (x.count(5) > 0) {
            x.unfactor(0);
        }
        checks.due("undo when none are left", x.undo(), 2);
        checks.holds("all is as it was", before.equals(Checks.stateOf(x)));
        // An image of none, laid over some.
        x = new SignTables();
        before = Checks.stateOf(x);
        checks.due("image of none", x.image(), 0);
        x.await(5);
        x.factor(2, 0, 0);
        checks.due("undo to none", x.undo(), 0);
        checks.holds("all is as at first", before.equals(Checks.stateOf(x)));
    }

    // Terms 5: "(TRAYS, THE TAPE, how many TEXTS were read stay by undo())."
    private static void whatStaysByUndo() {
        SignTables x = full();
        x.image();
        x.put(0, 0, 77);
        x.tray(1, -1, 0);
        x.tray(2, 1, 1);
        x.feed('6');
        checks.due("read", x.read(), 1);
        x.feed('7');
        x.feed('s');
        checks.due("undo", x.undo(), 2);
        checks.due("a tray's item", x.get(0, 0), 77);
        checks.due("a tray that is nothing", x.put(1, 0, 1), -11);
        checks.due("a new tray", x.put(2, 0, 1), 1);
        checks.due("the tape", x.count(1), 2);
        checks.due("texts", x.count(2), 2);
        checks.due("P is that of the image", x.of(0, 2), 5);
        checks.due("the tape is read", x.read(), 1);
        checks.due("P", x.of(0, 1), 7);
        checks.due("texts", x.count(2), 3);
    }

    // Terms 6: "NONE (-1) no such number; BAD (-2) a number is not as told; STATE (-3) as told; FULL (-4); GREAT
    // (-7); of TRAYS NOTHING (-11): it is nothing, CAST (-12): of another sort, PLACE (-13): no such place, SIZE
    // (-14): a size below 0;"
    private static void answersAreNumbers() {
        checks.due("NONE", SignTables.NONE, -1);
        checks.due("BAD", SignTables.BAD, -2);
        checks.due("STATE", SignTables.STATE, -3);
        checks.due("FULL", SignTables.FULL, -4);
        checks.due("GREAT", SignTables.GREAT, -7);
        SignTables x = new SignTables();
        x.tray(1, 0, 1);
        x.tray(2, 1, 1);
        checks.due("NOTHING", x.put(0, 0, 0), -11);
        checks.due("CAST", x.copy(1, 0, 2, 0, 1), -12);
        checks.due("PLACE", x.put(1, 1, 0), -13);
        checks.due("SIZE", x.tray(0, 0, -1), -14);
    }

    private static void refused(SignTables x, String call, long answer, List<String> accepted) {
        if (answer >= 0) {
            accepted.add(call);
        }
    }

    // Terms 6: "What is answered so changes nothing"
    private static void refusedChangesNothing() {
        SignTables x = full();
        for (int i = 2; i < 16; i++) {
            x.await(i);
        }
        for (int i = 2; i < 6; i++) {
            x.factor(1, 20, 20);
        }
        for (int i = 1; i < 60; i++) {
            x.feed('s');
        }
        String before = Checks.stateOf(x);
        List<String> accepted = new ArrayList<>();
        refused(x, "set", x.set(0, 0, 100), accepted);
        refused(x, "gain", x.gain(101), accepted);
        refused(x, "feed", x.feed('1'), accepted);
        refused(x, "feed", x.feed(128), accepted);
        refused(x, "await", x.await(0), accepted);
        refused(x, "weed", x.weed(0, 3), accepted);
        refused(x, "weed", x.weed(2, 2), accepted);
        refused(x, "swap", x.swap(3), accepted);
        refused(x, "factor", x.factor(0, 0, 0), accepted);
        refused(x, "factor", x.factor(4, 0, 0), accepted);
        refused(x, "unfactor", x.unfactor(6), accepted);
        refused(x, "multiply", x.multiply(), accepted);
        refused(x, "undo", x.undo(), accepted);
        refused(x, "tray", x.tray(0, 0, 31), accepted);
        refused(x, "tray", x.tray(0, 0, -1), accepted);
        refused(x, "put", x.put(0, 2, 5), accepted);
        refused(x, "fill", x.fill(0, 0, 3), accepted);
        refused(x, "copy", x.copy(0, 0, 0, 1, 2), accepted);
        refused(x, "copy", x.copy(0, 0, 1, 0, 1), accepted);
        checks.due("calls that were not refused: " + accepted, accepted.size(), 0);
        checks.holds("nothing is changed", before.equals(Checks.stateOf(x)));
        x = new SignTables();
        before = Checks.stateOf(x);
        checks.due("next", x.next(), -3);
        checks.due("undo", x.undo(), -3);
        checks.holds("nothing is changed", before.equals(Checks.stateOf(x)));
    }

    // Terms 6: "(but that read() leaves THE TAPE empty)"
    private static void readLeavesTheTapeEmpty() {
        SignTables x = full();
        String before = Checks.stateOf(x);
        x.feed('x');
        checks.due("a fault", x.read(), -101);
        checks.due("the tape is empty", x.count(1), 0);
        x.feed('s');
        checks.holds("nothing else is changed", before.equals(Checks.stateOf(x)));
    }

    // Terms 6: "what is asked changes nothing."
    private static void askedChangesNothing() {
        SignTables x = full();
        String before = Checks.stateOf(x);
        for (int form = 0; form <= 50; form++) {
            x.form(form, 1);
            x.degree(form, 0);
            x.row(form, 1, 0);
            x.caseOf(form, 1);
            x.roots(form, 1);
            x.changes(form, 0, 1);
            x.judge(0, form, 0);
        }
        for (int kind = 0; kind < 2; kind++) {
            x.steady(kind, 16, 1600);
            x.spans(kind);
            x.span(kind, 0, 2);
            x.span(kind, 0, 3);
            x.nearest(kind, -100);
        }
        x.strip(-20, 20);
        x.reach();
        x.links();
        x.link(1, 1);
        x.chain(-20);
        x.real(-20, 20);
        x.waiting(1);
        for (int what = 0; what < 8; what++) {
            x.factored(0, what);
            x.known(what);
            x.count(what);
        }
        x.rights(-100);
        x.jumps();
        x.jump(0);
        x.best();
        x.get(0, 0);
        x.image();
        checks.holds("nothing is changed", before.equals(Checks.stateOf(x)));
    }

    // Terms 6: "the first that a call's words name."
    private static void firstThatIsNamed() {
        SignTables x = Checks.with(98, 97, 93, -95, 89, -99, 99);
        for (int i = 0; i < 16; i++) {
            x.await(i);
        }
        for (int i = 0; i < 6; i++) {
            x.factor(1, 20, 20);
        }
        for (int i = 0; i < 60; i++) {
            x.feed('s');
        }
        x.tray(0, 0, 1);
        x.tray(1, 1, 1);
        checks.due("feed: BAD, FULL", x.feed(128), -2);
        checks.due("caseOf: BAD, NONE, GREAT", x.caseOf(51, 7), -2);
        checks.due("caseOf: NONE, GREAT", x.caseOf(50, 7), -1);
        checks.due("roots: BAD, GREAT", x.roots(50, 5), -2);
        checks.due("changes: BAD, NONE", x.changes(51, 7, 0), -2);
        checks.due("changes: NONE, GREAT", x.changes(50, 6, 0), -1);
        checks.due("strip: BAD, GREAT", x.strip(20, 20), -2);
        checks.due("span: BAD, NONE", x.span(2, 99, 0), -2);
        checks.due("span: BAD, NONE", x.span(0, 99, 5), -2);
        checks.due("chain: BAD, GREAT", x.chain(21), -2);
        checks.due("real: BAD, GREAT", x.real(0, 0), -2);
        checks.due("await: BAD, FULL", x.await(101), -2);
        checks.due("factor: NONE, BAD, FULL", x.factor(4, 21, 21), -1);
        checks.due("factor: BAD, FULL", x.factor(1, 0, 21), -2);
        checks.due("multiply: STATE, GREAT", x.multiply(), -3);
        checks.due("tray: NONE, BAD", x.tray(4, 2, 31), -1);
        checks.due("tray: BAD, SIZE", x.tray(0, 2, -1), -2);
        checks.due("put: NONE, NOTHING", x.put(4, -1, 0), -1);
        checks.due("put: NOTHING, PLACE", x.put(2, -1, 0), -11);
        checks.due("fill: NONE, BAD", x.fill(4, 51, 0), -1);
        checks.due("fill: BAD, NOTHING", x.fill(2, 51, 7), -2);
        checks.due("fill: NOTHING, NONE", x.fill(2, 0, 7), -11);
        checks.due("fill: NONE, GREAT", x.fill(0, 50, 7), -1);
        checks.due("judge: BAD, NOTHING", x.judge(2, 51, 7), -2);
        checks.due("judge: NOTHING, NONE", x.judge(2, 50, 7), -11);
        checks.due("judge: NONE, GREAT", x.judge(0, 50, 7), -1);
        checks.due("copy: NONE, NOTHING", x.copy(4, 0, 2, 0, 0), -1);
        checks.due("copy: NOTHING, PLACE", x.copy(1, -1, 2, 0, 0), -11);
        checks.due("copy: CAST, PLACE", x.copy(0, -1, 1, 9, -9), -12);
        checks.due("rights: BAD", x.rights(101), -2);
    }

    // The constants: "`NO = Long.MIN_VALUE`: There is no such number."
    private static void noSuchNumber() {
        checks.due("NO", SignTables.NO, Long.MIN_VALUE);
        checks.due("of", new SignTables().of(3, 0), Long.MIN_VALUE);
        checks.due("get", new SignTables().get(0, 0), Long.MIN_VALUE);
    }

    // Promise 43: "How many: 0 WAITING, 1 bytes of THE TAPE, 2 TEXTS read without FAULT, 3 SPANS of both KINDS; 4 K
    // and 1000; 5 FACTORS."
    private static void countAnswers() {
        SignTables x = new SignTables();
        int[] atFirst = {0, 0, 0, 0, 1000, 0};
        for (int what = 0; what < 6; what++) {
            int due = what == 3 ? x.spans(0) + x.spans(1) : atFirst[what];
            checks.due("count(" + what + ") at first", x.count(what), due);
        }
        for (int i = 1; i <= 16; i++) {
            x.await(0);
            checks.due("waiting", x.count(0), i);
        }
        for (int i = 1; i <= 60; i++) {
            x.feed('x');
            checks.due("tape", x.count(1), i);
        }
        x.read();
        checks.due("a fault is no text", x.count(2), 0);
        checks.due("an empty tape is none", x.read(), -100);
        checks.due("an empty tape is none", x.count(2), 0);
        Checks.read(x, "s");
        checks.due("a text", x.count(2), 1);
        x.gain(-100);
        checks.due("K", x.count(4), 900);
        x.gain(100);
        checks.due("K", x.count(4), 1100);
        for (int i = 1; i <= 6; i++) {
            x.factor(2, 0, 0);
            checks.due("factors", x.count(5), i);
        }
        checks.due("s: within the circle, on the line", x.count(3), 1);
        Checks.read(x, "2s+1");
        checks.due("one of each kind", x.count(3), 2);
        Checks.read(x, "s+1+K(s+1)");
        checks.due("two of the line", x.count(3), 2);
        Checks.read(x, "2s+1+K(2s+1)");
        checks.due("two of each kind", x.count(3), 4);
        Checks.read(x, "s-1");
        checks.due("none", x.count(3), 0);
        Checks.read(x, "0");
        checks.due("none without DEGREE", x.count(3), 0);
    }

    // Promise 43: "BAD."
    private static void countRefuses() {
        for (int what : new int[] {-1, 6, LEAST, MOST}) {
            checks.due("count(" + what + ")", full().count(what), -2);
        }
    }

    // Promise 44: "THE IMAGE is taken: how many are WAITING."
    private static void imageAnswers() {
        SignTables x = new SignTables();
        checks.due("of none", x.image(), 0);
        for (int i = 0; i < 16; i++) {
            x.await(i);
        }
        checks.due("of sixteen", x.image(), 16);
        checks.due("again", x.image(), 16);
        x.swap(0);
        checks.due("the last one is laid back", x.undo(), 16);
        checks.due("it stands as it stood", x.waiting(0), 1000);
    }

    // Promise 45: "P, Q, K, FACTORS and those WAITING are as in THE IMAGE: how many are WAITING."
    private static void undoAnswers() {
        SignTables x = full();
        String before = Checks.stateOf(x);
        x.image();
        checks.due("at once", x.undo(), 2);
        checks.holds("nothing is changed", before.equals(Checks.stateOf(x)));
        x.gain(1);
        checks.due("undo", x.undo(), 2);
        x.gain(2);
        x.next();
        checks.due("undo again", x.undo(), 2);
        checks.holds("all is as it was", before.equals(Checks.stateOf(x)));
        // What is changed after undo does not change the image.
        x.set(0, 6, 9);
        x.swap(2);
        x.unfactor(0);
        checks.due("undo once more", x.undo(), 2);
        checks.holds("all is as it was", before.equals(Checks.stateOf(x)));
    }

    // Promise 45: "STATE: there is none."
    private static void undoAheadOfAny() {
        checks.due("of a new object", new SignTables().undo(), -3);
        SignTables x = full();
        String before = Checks.stateOf(x);
        checks.due("ahead of any image", x.undo(), -3);
        checks.holds("nothing is changed", before.equals(Checks.stateOf(x)));
        x.image();
        checks.due("behind one", x.undo(), 2);
    }
}
