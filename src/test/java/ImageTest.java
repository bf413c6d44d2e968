/** Promises 43 to 45: counts, the image and how it is laid back. */
public final class ImageTest {
    private static final Checks checks = new Checks();

    public static void main(String[] args) {
        counts();
        undo();
        undoAgain();
        whatStays();
        checks.end();
    }

    private static void counts() {
        SignTables x = Checks.reading("s+2+K(1)");
        Checks.read(x, "nothing");
        Checks.read(x, "3s+1+K(s)");
        x.await(1);
        x.await(2);
        x.feed('s');
        x.gain(-7);
        x.factor(2, 0, 0);
        int[] due = {2, 1, 2, x.spans(0) + x.spans(1), 993, 1};
        for (int what = 0; what < due.length; what++) {
            checks.due("count(" + what + ")", x.count(what), due[what]);
        }
        checks.due("count(3)", x.count(3), 3);
        checks.due("count(-1)", x.count(-1), -2);
        checks.due("count(6)", x.count(6), -2);
    }

    private static void undo() {
        SignTables x = Checks.reading("5s2-3+K(4s)");
        checks.due("undo of none", x.undo(), -3);
        x.gain(9);
        x.await(3);
        x.await(-4);
        x.factor(1, 2, 3);
        x.factor(0, 7, 0);
        String before = Checks.stateOf(x);
        checks.due("image", x.image(), 2);
        checks.holds("an image changes nothing", before.equals(Checks.stateOf(x)));
        x.set(0, 6, 1);
        x.set(1, 0, 2);
        x.next();
        x.swap(0);
        x.unfactor(0);
        x.factor(3, 0, 9);
        x.factor(2, 0, 0);
        x.multiply();
        checks.due("undo", x.undo(), 2);
        checks.holds("all is as before", before.equals(Checks.stateOf(x)));
        checks.due("rights", x.rights(9), x.roots(0, 0));
    }

    private static void undoAgain() {
        SignTables x = new SignTables();
        checks.due("image", x.image(), 0);
        x.await(1);
        x.set(0, 0, 9);
        checks.due("undo", x.undo(), 0);
        checks.due("P", x.of(0, 0), 0);
        x.await(2);
        x.factor(2, 0, 0);
        x.gain(5);
        checks.due("undo again", x.undo(), 0);
        checks.due("factors", x.count(5), 0);
        checks.due("K", x.count(4), 1000);
        x.await(3);
        checks.due("another image", x.image(), 1);
        x.next();
        checks.due("undo to that", x.undo(), 1);
        checks.due("waiting", x.waiting(0), 1003);
        checks.due("K", x.count(4), 1000);
    }

    private static void whatStays() {
        SignTables x = new SignTables();
        x.image();
        x.tray(0, 1, 1);
        x.put(0, 0, 5);
        Checks.read(x, "s2");
        x.feed('7');
        checks.due("undo", x.undo(), 0);
        checks.due("a tray stays", x.get(0, 0), 5);
        checks.due("the tape stays", x.count(1), 1);
        checks.due("texts stay", x.count(2), 1);
        checks.due("P does not", x.of(0, 2), 0);
        checks.due("the tape is read", x.read(), 1);
        checks.due("P", x.of(0, 0), 7);
    }
}
