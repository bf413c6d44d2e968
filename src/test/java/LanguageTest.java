import java.lang.management.ManagementFactory;
import java.lang.reflect.Member;
import java.lang.reflect.Modifier;
import java.nio.charset.StandardCharsets;
import java.nio.file.Files;
import java.nio.file.Path;
import java.util.ArrayList;
import java.util.Collections;
import java.util.HashSet;
import java.util.List;
import java.util.Set;
import java.util.regex.Matcher;
import java.util.regex.Pattern;

/** What of ../shared/LANGUAGE.md can be seen from the text of the program, and from its classes. */
public final class LanguageTest {
    private static final Checks checks = new Checks();
    private static final Path PROGRAM = Path.of("src/main/java/SignTables.java");
    private static final Set<String> FACE = Set.of("NONE", "BAD", "STATE", "FULL", "GREAT", "NO", "set", "of", "gain",
        "feed", "read", "form", "degree", "row", "caseOf", "roots", "changes", "strip", "reach", "steady", "spans",
        "span", "nearest", "links", "link", "chain", "real", "await", "next", "waiting", "weed", "swap", "factor",
        "factored", "unfactor", "known", "multiply", "rights", "jumps", "jump", "best", "tray", "put", "get", "fill",
        "judge", "copy", "count", "image", "undo");

    public static void main(String[] args) throws Exception {
        String text = Files.readString(PROGRAM, StandardCharsets.ISO_8859_1);
        String code = withoutWords(text);
        forbidden(code);
        libraries(code);
        methodsAreShort(text);
        face();
        classes();
        makesNoObjects();
        checks.end();
    }

    // Comments and constants of text and of letters are none of the code.
    private static String withoutWords(String text) {
        String code = text.replaceAll("(?s)/\\*.*?\\*/", " ").replaceAll("//[^\n]*", " ");
        return code.replaceAll("\"[^\"\n]*\"", "\"\"").replaceAll("'[^'\n]+'", "' '");
    }

    private static void forbidden(String code) {
        String words = "throw|throws|try|catch|finally|synchronized|assert|package|volatile|transient|native|Object"
            + "|protected|var|yield|hashCode|Thread|Random|File|Exception|Error";
        Matcher found = Pattern.compile("\\b(" + words + ")\\b|->|::|Exact\\(|import (?!java\\.util\\.)").matcher(code);
        while (found.find()) {
            checks.holds("the word " + found.group() + " is not used", false);
        }
    }

    private static void libraries(String code) {
        Set<String> allowed = Set.of("Math.abs", "Math.max", "Math.min", "Math.floorDiv", "Math.floorMod",
            "Long.MIN_VALUE", "Long.MAX_VALUE", "Long.compare", "Long.max", "Long.min", "Long.signum", "Long.bitCount",
            "Integer", "Integer.MIN_VALUE", "Integer.MAX_VALUE", "Integer.compare", "Integer.max", "Integer.min",
            "Integer.signum", "Integer.bitCount", "System.arraycopy", "Arrays", "Arrays.copyOf", "Arrays.copyOfRange",
            "Arrays.fill", "String", "List", "List.of", "ArrayList");
        Matcher found = Pattern.compile("\\b(Math|Long|Integer|System|Arrays|String|List|ArrayList)\\b(\\.\\w+)?")
            .matcher(code);
        while (found.find()) {
            checks.holds(found.group() + " is of the library that is allowed", allowed.contains(found.group()));
        }
    }

    private static void methodsAreShort(String text) {
        List<Integer> starts = new ArrayList<>();
        String[] lines = text.split("\n");
        for (int i = 0; i < lines.length; i++) {
            String line = withoutWords(lines[i]);
            for (int j = 0; j < line.length(); j++) {
                if (line.charAt(j) == '{') {
                    starts.add(i);
                }
                if (line.charAt(j) == '}') {
                    int start = starts.remove(starts.size() - 1);
                    boolean isClass = lines[start].contains(" class ");
                    checks.holds("short from line " + (start + 1), isClass || i - start < 60);
                }
            }
        }
    }

    private static void face() {
        Set<String> open = new HashSet<>();
        List<Member> members = new ArrayList<>();
        Collections.addAll(members, SignTables.class.getDeclaredFields());
        Collections.addAll(members, SignTables.class.getDeclaredMethods());
        for (Member m : members) {
            boolean isOpen = Modifier.isPublic(m.getModifiers());
            checks.holds(m.getName() + " is public or private", isOpen || Modifier.isPrivate(m.getModifiers()));
            if (isOpen) {
                open.add(m.getName());
            }
            checks.holds(m.getName() + " is of one face alone", isOpen == FACE.contains(m.getName()));
        }
        checks.holds("the whole face", open.equals(FACE));
        int modifiers = SignTables.class.getModifiers();
        checks.holds("public and final", Modifier.isPublic(modifiers) && Modifier.isFinal(modifiers));
    }

    private static void classes() {
        Class<?>[] inside = SignTables.class.getDeclaredClasses();
        checks.holds("some twelve classes", inside.length < 12);
        for (Class<?> c : inside) {
            checks.holds(c + " is static", Modifier.isStatic(c.getModifiers()));
            checks.holds(c + " has few fields", c.getDeclaredFields().length <= 20);
            for (var method : c.getDeclaredMethods()) {
                checks.holds(method + " has a name of its own", !FACE.contains(method.getName()));
                checks.holds(method + " takes few", method.getParameterCount() <= 7);
            }
            for (var field : c.getDeclaredFields()) {
                int m = field.getModifiers();
                checks.holds(field + " is no open state", !Modifier.isStatic(m) || Modifier.isFinal(m));
            }
        }
    }

    private static final int[] FORMS = {0, 1, 2, 3, 10, 50};

    private static int useAll(SignTables x) {
        int all = 0;
        for (int i = 0; i < 7; i++) {
            x.set(1, i, (i * 37) % 50 - 20);
            for (int form : FORMS) {
                all += x.roots(form, 0) + x.changes(form, 0, 1) + x.caseOf(form, 1) + (int) x.row(form, 0, 0);
            }
            all += x.spans(0) + x.spans(1) + x.span(0, 0, 2) + x.nearest(1, 3) + x.jumps() + x.best() + x.links();
            all += x.chain(3) + x.real(-4, 4) + x.reach() + x.strip(-3, 3) + x.count(3) + x.image() + x.undo();
            all += x.await(i) + x.weed(0, 2) + x.swap(1) + x.factor(1, i, i) + x.factored(0, 7) + x.known(0);
            all += x.unfactor(0) + x.multiply() + x.feed('s') + x.read() + x.tray(0, 0, 30) + x.fill(0, 0, 0);
            all += x.judge(0, 0, 0) + x.copy(0, 0, 0, 1, 20) + x.next();
        }
        return all;
    }

    private static void makesNoObjects() {
        var bean = (com.sun.management.ThreadMXBean) ManagementFactory.getThreadMXBean();
        SignTables x = new SignTables();
        int all = useAll(x);
        long before = bean.getCurrentThreadAllocatedBytes();
        for (int i = 0; i < 50; i++) {
            all += useAll(x);
        }
        long made = bean.getCurrentThreadAllocatedBytes() - before;
        checks.holds("calls make no objects: " + made + " bytes", made < 10000 && all != 1);
    }
}
