import java.lang.reflect.Field;

/**
 * Coefficients of P beyond -99 .. 99, laid into an object from behind: for what no call leads to. How the program holds
 * its state is free; where P is not found, the tests that need this are left out.
 */
final class Inside {
    private static final boolean OPEN = isFound();

    private Inside() {
    }

    static boolean isOpen() {
        return OPEN;
    }

    private static boolean isFound() {
        try {
            return with(5).of(0, 0) == 5;
        } catch (IllegalStateException e) {
            System.out.println("P is not found inside, tests of longs beyond all limits are left out: " + e);
            return false;
        }
    }

    /** A new object whose P is told from power 0 on, by any longs. */
    static SignTables with(long... p) {
        SignTables x = new SignTables();
        Object inside = field(field(x, "now"), "p");
        if (!(inside instanceof long[])) {
            throw new IllegalStateException("P is not held as longs");
        }
        long[] held = (long[]) inside;
        for (int i = 0; i < held.length; i++) {
            held[i] = i < p.length ? p[i] : 0;
        }
        return x;
    }

    private static Object field(Object of, String name) {
        try {
            Field found = of.getClass().getDeclaredField(name);
            found.setAccessible(true);
            return found.get(of);
        } catch (ReflectiveOperationException e) {
            throw new IllegalStateException(e);
        }
    }
}
