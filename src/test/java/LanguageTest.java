import java.nio.charset.StandardCharsets;
import java.nio.file.Files;
import java.nio.file.Path;
import java.util.Arrays;
import java.util.HashSet;
import java.util.Map;
import java.util.Set;
import java.util.TreeMap;
import java.util.TreeSet;
import java.util.regex.Matcher;
import java.util.regex.Pattern;

/** Rules of LANGUAGE.md that the words of the source show. It is run from the project's folder. */
public final class LanguageTest {
    private static final Path SOURCE = Path.of("src/main/java/PromiseTailor.java");
    private static final int MOST_LINES = 60;
    private static final int MOST_CALLS_DEEP = 8;

    public static void main(String[] args) throws Exception {
        String source = Files.readString(SOURCE, StandardCharsets.ISO_8859_1);
        String code = source.replaceAll("(?s)/\\*.*?\\*/", "").replaceAll("//[^\n]*", "");
        for (char c : source.toCharArray()) {
            if (c > 126 || c < 32 && c != '\n') {
                Check.due("a sign that is not plain: " + (int) c, 0, 1);
            }
        }
        none(code, "\\b(throw|throws|try|catch|synchronized|assert|instanceof|package|native|volatile|transient)\\b");
        none(code, "\\b(double|float|Object|Thread|Random|Exception|Error)\\b");
        none(code, "->|::|@|\"");
        none(code, "\\bpublic static (?!final int NONE)|\\bprotected\\b");
        onlyListed(code, "import ([\\w.]+)", "java.util.Arrays");
        onlyListed(code, "\\b((?:Integer|Long|Math|Arrays|System|String)\\.\\w+)", "Integer.bitCount", "Integer.numberOfTrailingZeros",
            "Math.min", "Math.max", "Arrays.fill", "System.arraycopy");
        // the one divisor that is no constant is how many PROMISES there are, and drawKeepings leaves where there are none
        onlyListed(code, "[^/*][/%] ([\\w.]+)", "2", "3", "5", "DAYS", "KINDS", "vows.size");
        rowsAreMadeInFieldsAlone(code);
        Map<String, String> bodies = bodiesOfShortMethods(code);
        callsAreNotDeep(bodies);
        Check.end();
    }

    private static void none(String code, String pattern) {
        Matcher m = Pattern.compile(pattern).matcher(code);
        boolean found = m.find();
        Check.due(found ? "the code has '" + m.group() + "'" : pattern, found ? 1 : 0, 0);
    }

    private static void onlyListed(String code, String pattern, String... listed) {
        Set<String> all = new HashSet<>(Arrays.asList(listed));
        Matcher m = Pattern.compile(pattern).matcher(code);
        while (m.find()) {
            Check.due(m.group(1) + " is listed", all.contains(m.group(1)) ? 1 : 0, 1);
        }
    }

    /** No call makes an object, so a run of any length needs no more room than its objects. */
    private static void rowsAreMadeInFieldsAlone(String code) {
        for (String line : code.split("\n")) {
            if (line.contains("new ")) {
                Check.due("made in a field: " + line.strip(), line.matches("\\s+(private )?final [\\w\\[\\]]+ \\w+ = new .*;") ? 1 : 0, 1);
            }
        }
    }

    /** The methods by their names, with what stands in them (those of one name together). */
    private static Map<String, String> bodiesOfShortMethods(String code) {
        String[] lines = code.split("\n");
        Map<String, String> bodies = new TreeMap<>();
        Pattern head = Pattern.compile("    (?:    )?[\\w\\[\\] ]*?(\\w+)\\([^;]*\\) \\{");
        String name = null;
        int start = 0;
        int depth = 0;
        for (int i = 0; i < lines.length; i++) {
            Matcher m = head.matcher(lines[i]);
            if (name == null && m.matches() && !lines[i].matches("\\s*(if|for|while|switch)\\b.*")) {
                name = m.group(1);
                start = i;
                depth = 0;
            }
            if (name != null) {
                depth += count(lines[i], '{') - count(lines[i], '}');
                bodies.merge(name, i == start ? "" : lines[i] + "\n", String::concat);
                if (depth == 0) {
                    Check.due("short: " + lines[start].strip(), i - start + 1 <= MOST_LINES ? 1 : 0, 1);
                    name = null;
                }
            }
        }
        return bodies;
    }

    /** No method comes to itself again, and no chain of calls, those of the library too, is longer than may be. */
    private static void callsAreNotDeep(Map<String, String> bodies) {
        Check.due("methods were found", bodies.size() > 80 ? 1 : 0, 1);
        for (String name : bodies.keySet()) {
            int deep = deepest(bodies, name, new TreeSet<>());
            Check.due(name + " goes " + deep + " deep", deep <= MOST_CALLS_DEEP ? 1 : 0, 1);
        }
    }

    private static int deepest(Map<String, String> bodies, String name, Set<String> open) {
        if (!open.add(name)) {
            Check.due(name + " comes to itself again", 1, 0);
            return MOST_CALLS_DEEP + 1;
        }
        int deep = 0;
        Matcher m = Pattern.compile("\\b((?:(?:Math|Integer|Arrays|System)\\.)?\\w+)\\(").matcher(bodies.get(name));
        Set<String> called = new TreeSet<>();
        while (m.find()) {
            called.add(m.group(1));
        }
        for (String one : called) {
            boolean own = bodies.containsKey(one);
            deep = Math.max(deep, own ? deepest(bodies, one, open) : one.indexOf('.') > 0 ? 1 : 0);
        }
        open.remove(name);
        return deep + 1;
    }

    private static int count(String line, char c) {
        return (int) line.chars().filter(v -> v == c).count();
    }
}
