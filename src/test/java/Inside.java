import java.lang.reflect.Field;

/** Coefficients of P beyond -99 .. 99, laid into an object from behind: for what no call leads to. */
final class Inside {
    private Inside() {
    }

    /** A new object whose P is told from power 0 on, by any longs. */
    static SignTables with(long... p) throws ReflectiveOperationException {
        SignTables x = new SignTables();
        Object now = field(x, "now");
        long[] inside = (long[]) field(now, "p");
        for (int i = 0; i < inside.length; i++) {
            inside[i] = i < p.length ? p[i] : 0;
        }
        return x;
    }

    private static Object field(Object of, String name) throws ReflectiveOperationException {
        Field found = of.getClass().getDeclaredField(name);
        found.setAccessible(true);
        return found.get(of);
    }
}
