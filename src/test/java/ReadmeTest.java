import java.io.IOException;
import java.nio.charset.StandardCharsets;
import java.nio.file.Files;
import java.nio.file.Path;
import java.util.ArrayList;
import java.util.List;
import java.util.regex.Matcher;
import java.util.regex.Pattern;

/** README.md word for word: its example, its commands, and what it lists. */
public final class ReadmeTest {
    private static final Checks checks = new Checks();
    private static final Path PAGE = Path.of("README.md");
    private static final Path DOCUMENT = Path.of("../shared/DOC.md");
    private static final String ALL_TESTS = ".ci/run";
    private static final Pattern BLOCK = Pattern.compile("(?ms)^```(\\w+)\\n(.*?)^```$");
    private static final Pattern PLACE = Pattern.compile("Put this into `(build/[^`]+)`:");
    private static final Pattern ANSWER = Pattern.compile("System\\.out\\.println\\(.*\\); *// (-?\\d+): ");
    private static final Pattern CALL = Pattern.compile("public (?:int|long) (\\w+)\\((.*)\\);");

    public static void main(String[] args) throws Exception {
        String page = Files.readString(PAGE, StandardCharsets.UTF_8);
        listsEachCall(section(page, "Use"));
        listsEachRefusal(section(page, "Use"));
        listsEachClass(section(page, "How it is built"));
        exampleAnswers(section(page, "Use"));
        testsByThemselves(section(page, "Tests"));
        checks.holds("git ignores build/", Files.readAllLines(Path.of(".gitignore")).contains("build/"));
        checks.end();
    }

    private static String section(String page, String name) {
        Matcher found = Pattern.compile("(?ms)^## " + name + "$(.*?)(?=^## |\\z)").matcher(page);
        if (!found.find()) {
            throw new IllegalStateException("the page has no " + name);
        }
        return found.group(1);
    }

    // As the document's face has it, but for the types.
    private static void listsEachCall(String use) throws IOException {
        Matcher call = CALL.matcher(Files.readString(DOCUMENT, StandardCharsets.UTF_8));
        int calls = 0;
        while (call.find()) {
            calls++;
            String told = "`" + call.group(1) + "(" + call.group(2).replaceAll("(int|long) ", "") + ")`";
            checks.holds("the page lists " + told, use.contains(told));
        }
        checks.due("calls of the document's face", calls, 44);
    }

    private static void listsEachRefusal(String use) {
        String[] names = {"NONE", "BAD", "STATE", "FULL", "GREAT"};
        int[] values = {SignTables.NONE, SignTables.BAD, SignTables.STATE, SignTables.FULL, SignTables.GREAT};
        for (int i = 0; i < names.length; i++) {
            String told = "`" + names[i] + "` (" + values[i] + ")";
            checks.holds("the page lists " + told, use.contains(told));
        }
        checks.holds("the page lists NO", use.contains("`NO` (the least long)") && SignTables.NO == Checks.NO);
    }

    private static void listsEachClass(String built) {
        for (Class<?> inside : SignTables.class.getDeclaredClasses()) {
            String told = "`" + inside.getSimpleName() + "`";
            checks.holds("the page lists " + told, built.contains(told));
        }
    }

    private static void exampleAnswers(String use) throws Exception {
        Matcher place = PLACE.matcher(use);
        checks.holds("the page says where its example goes", place.find());
        List<String> due = new ArrayList<>();
        String printed = "";
        Matcher block = BLOCK.matcher(use);
        while (block.find()) {
            if (block.group(1).equals("java")) {
                Files.writeString(Path.of(place.group(1)), block.group(2), StandardCharsets.UTF_8);
                takeAnswers(block.group(2), due);
            } else {
                printed = run(block.group(2));
            }
        }
        String[] got = printed.split("\\R");
        checks.due("answers of the example", got.length, due.size());
        for (int i = 0; i < got.length && i < due.size(); i++) {
            checks.holds("answer " + (i + 1) + " of the example is " + due.get(i) + ": " + got[i],
                got[i].equals(due.get(i)));
        }
    }

    private static void takeAnswers(String example, List<String> due) {
        Matcher answer = ANSWER.matcher(example);
        while (answer.find()) {
            due.add(answer.group(1));
        }
        int told = example.split("println", -1).length - 1;
        checks.due("calls of the example with an answer behind them", due.size(), told);
    }

    // All tests at once would run this one again and again.
    private static void testsByThemselves(String tests) throws Exception {
        List<String> printed = new ArrayList<>();
        boolean tellsAll = false;
        Matcher block = BLOCK.matcher(tests);
        while (block.find()) {
            if (block.group(2).equals(ALL_TESTS + "\n")) {
                tellsAll = Files.isExecutable(Path.of(ALL_TESTS));
            } else {
                printed.add(run(block.group(2)));
            }
        }
        checks.holds("the page tells how all tests run", tellsAll);
        checks.due("ways to run a test by itself", printed.size(), 2);
        checks.holds("one of the project's own prints nothing", printed.get(0).isEmpty());
    }

    private static String run(String commands) throws Exception {
        Process shell = new ProcessBuilder("sh", "-e", "-c", commands)
            .redirectError(ProcessBuilder.Redirect.INHERIT).start();
        String printed = new String(shell.getInputStream().readAllBytes(), StandardCharsets.UTF_8);
        checks.due("exit of: " + commands, shell.waitFor(), 0);
        return printed;
    }
}
