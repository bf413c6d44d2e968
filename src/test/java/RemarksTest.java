import java.io.IOException;
import java.nio.charset.StandardCharsets;
import java.nio.file.DirectoryStream;
import java.nio.file.Files;
import java.nio.file.Path;
import java.util.HashSet;
import java.util.List;
import java.util.Map;
import java.util.Set;
import java.util.TreeMap;
import java.util.regex.Matcher;
import java.util.regex.Pattern;

/**
 * What the tests of boundary cases say of themselves: each quotes a sentence that is in the document, where it says
 * that it is; all promises are quoted whole, and the terms but for what names no boundary.
 */
public final class RemarksTest {
    private static final Checks checks = new Checks();
    private static final Path TESTS = Path.of("src/test/java");
    private static final Path DOCUMENT = Path.of("../shared/DOC.md");
    private static final Pattern REMARK =
        Pattern.compile("(Promise \\d+|Terms \\d|In doubt|The constants): \"([^\"]*)\"");
    private static final Pattern METHOD = Pattern.compile("private static void (\\w+)\\(");

    /** What names no boundary of its own. */
    private static final Set<String> LEADING = Set.of("FORMS of C (of DEGREE n):", "SIGN ROWS of a FORM of DEGREE m:",
        "ROW k (from 2 on), B being the ROW ahead, A that ahead of B", "Then CASE of a ROW k (from 1 on):",
        "STEADY by a KIND (0 line, 1 circle), for numbers u, v (of u times P and v times Q for C):",
        ": LINKS, each a polynomial.", "The next one, B being the last, A that ahead:",
        "then, e being by how much its DEGREE is greater, of each POWER i + e", ", or", "KNOWN of one:", "Answers:");

    private static final Map<String, String> sections = new TreeMap<>();
    private static final Map<String, boolean[]> quoted = new TreeMap<>();

    public static void main(String[] args) throws IOException {
        takeSections(Files.readString(DOCUMENT, StandardCharsets.UTF_8));
        try (DirectoryStream<Path> files = Files.newDirectoryStream(TESTS, "EdgesOf*Test.java")) {
            for (Path file : files) {
                takeRemarks(file);
            }
        }
        for (String name : sections.keySet()) {
            isQuoted(name);
        }
        checks.due("promises, terms, what is in doubt, the constants", sections.size(), 45 + 6 + 2);
        checks.end();
    }

    private static String oneLine(String text) {
        return text.replace("```text", " ").replace("```", " ").replaceAll("\\s+", " ").trim();
    }

    private static void takeSections(String document) {
        String terms = between(document, "## Terms", "In doubt.");
        for (int i = 1; i <= 6; i++) {
            takeSection("Terms " + i, between(terms, "==== " + i, "===="));
        }
        takeSection("In doubt", between(document, "In doubt.", "The constants:"));
        takeSection("The constants", between(document, "The constants:", "## Promise 1:"));
        for (int i = 1; i <= 45; i++) {
            String promise = between(document, "## Promise " + i + ":", "\n## ");
            takeSection("Promise " + i, promise.replaceFirst("(?s).*?`.*?`:", ""));
        }
    }

    private static void takeSection(String name, String text) {
        sections.put(name, oneLine(text));
        quoted.put(name, new boolean[oneLine(text).length()]);
    }

    private static String between(String text, String begin, String end) {
        int from = text.indexOf(begin);
        if (from < 0) {
            throw new IllegalStateException("the document has no " + begin);
        }
        int to = text.indexOf(end, from + begin.length());
        return text.substring(from + begin.length(), to < 0 ? text.length() : to);
    }

    private static void takeRemarks(Path file) throws IOException {
        List<String> lines = Files.readAllLines(file, StandardCharsets.UTF_8);
        Set<String> tests = new HashSet<>();
        StringBuilder remark = new StringBuilder();
        for (String line : lines) {
            String told = line.trim();
            if (told.startsWith("//")) {
                remark.append(told.substring(2)).append(' ');
                continue;
            }
            Matcher method = METHOD.matcher(line);
            if (method.find() && takeRemark(file, remark.toString())) {
                tests.add(method.group(1));
            }
            remark.setLength(0);
        }
        String all = String.join("\n", lines);
        for (String test : tests) {
            checks.holds(file + " calls " + test, all.contains("        " + test + "();"));
        }
        checks.holds(file + " has tests", tests.size() > 5);
    }

    private static boolean takeRemark(Path file, String remark) {
        Matcher found = REMARK.matcher(remark);
        if (!found.find()) {
            return false;
        }
        String section = sections.getOrDefault(found.group(1), "");
        String sentence = oneLine(found.group(2));
        int at = section.indexOf(sentence);
        checks.holds(file + ": " + found.group() + " is in the document", at >= 0);
        while (at >= 0 && !sentence.isEmpty()) {
            boolean[] of = quoted.get(found.group(1));
            for (int i = 0; i < sentence.length(); i++) {
                of[at + i] = true;
            }
            at = section.indexOf(sentence, at + 1);
        }
        return true;
    }

    // All words of a section are in some quotation, but for those that lead on to others.
    private static void isQuoted(String name) {
        StringBuilder left = new StringBuilder();
        boolean[] of = quoted.get(name);
        String text = sections.get(name);
        for (int i = 0; i < text.length(); i++) {
            left.append(of[i] ? '|' : text.charAt(i));
        }
        for (String part : left.toString().split("\\|+")) {
            boolean hasWords = part.matches(".*\\w.*");
            checks.holds(name + " quotes: " + part, !hasWords || LEADING.contains(part.trim()));
        }
    }
}
