import java.lang.reflect.InvocationTargetException;
import java.lang.reflect.Method;
import java.lang.reflect.Modifier;
import java.util.ArrayList;
import java.util.Comparator;
import java.util.List;
import java.util.Set;

/** Any calls in any state: none throws, and what is asked or refused changes nothing. */
public final class RandomRunsTest {
    private static final Checks checks = new Checks();
    private static final Polys random = new Polys(53);
    private static final int[] EDGES = {Integer.MIN_VALUE, Integer.MAX_VALUE, -101, -100, -99, -21, -20,
        -2, -1, 4, 7, 9, 10, 16, 17, 20, 21, 29, 30, 31, 50, 51, 60, 99, 100, 101, 127, 128, 1600, 1601};
    private static final Set<String> CHANGING = Set.of("set", "gain", "feed", "read", "await", "next", "weed",
        "swap", "factor", "unfactor", "multiply", "tray", "put", "fill", "copy", "undo");
    private static final String LETTERS = "s1+s-3K(9)2s";

    public static void main(String[] args) throws Exception {
        List<Method> calls = calls();
        checks.due("calls", calls.size(), 44);
        for (int run = 0; run < 40; run++) {
            SignTables x = new SignTables();
            String before = Checks.stateOf(x);
            for (int i = 0; i < 300; i++) {
                before = call(x, calls.get(random.number(0, calls.size() - 1)), before);
            }
            isLikeANewOne(x);
        }
        checks.end();
    }

    private static List<Method> calls() {
        List<Method> calls = new ArrayList<>();
        for (Method m : SignTables.class.getDeclaredMethods()) {
            if (Modifier.isPublic(m.getModifiers())) {
                calls.add(m);
            }
        }
        calls.sort(Comparator.comparing(Method::getName));
        return calls;
    }

    private static int argument(String name) {
        if (name.equals("feed") && random.number(0, 9) > 0) {
            return LETTERS.charAt(random.number(0, LETTERS.length() - 1));
        }
        int sort = random.number(0, 9);
        if (sort == 0) {
            return EDGES[random.number(0, EDGES.length - 1)];
        }
        return sort < 8 ? random.number(0, 6) : random.number(-100, 100);
    }

    private static String call(SignTables x, Method m, String before) throws Exception {
        StringBuilder told = new StringBuilder(m.getName());
        Object[] arguments = new Object[m.getParameterCount()];
        for (int i = 0; i < arguments.length; i++) {
            int v = argument(m.getName());
            arguments[i] = m.getParameterTypes()[i] == long.class ? (Object) Long.valueOf(v) : Integer.valueOf(v);
            told.append(' ').append(v);
        }
        long answer;
        try {
            answer = ((Number) m.invoke(x, arguments)).longValue();
        } catch (InvocationTargetException e) {
            checks.holds(told + " throws " + e.getCause(), false);
            return Checks.stateOf(x);
        }
        String after = Checks.stateOf(x);
        boolean refused = m.getName().equals("set") ? answer == Checks.NO : answer < 0;
        boolean emptiesTape = m.getName().equals("read");
        if (!emptiesTape && (refused || !CHANGING.contains(m.getName()))) {
            checks.holds(told + " changes nothing", before.equals(after));
        }
        return after;
    }

    // What is kept of earlier calls shows in no answer.
    private static void isLikeANewOne(SignTables x) {
        SignTables y = new SignTables();
        for (int power = 0; power < 7; power++) {
            y.set(0, power, (int) x.of(0, power));
            y.set(1, power, (int) x.of(1, power));
        }
        for (int kind = 0; kind < 2; kind++) {
            checks.due("spans", x.spans(kind), y.spans(kind));
            for (int i = 0; i < y.spans(kind); i++) {
                for (int what = 0; what < 5; what++) {
                    checks.due("span", x.span(kind, i, what), y.span(kind, i, what));
                }
            }
        }
        checks.due("jumps", x.jumps(), y.jumps());
        checks.due("best", x.best(), y.best());
        for (int k = -100; k <= 100; k++) {
            checks.due("rights", x.rights(k), y.rights(k));
        }
    }
}
