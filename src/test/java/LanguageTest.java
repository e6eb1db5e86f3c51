import java.nio.charset.StandardCharsets;
import java.nio.file.Files;
import java.nio.file.Path;
import java.util.Arrays;
import java.util.HashSet;
import java.util.Set;
import java.util.regex.Matcher;
import java.util.regex.Pattern;

/** Rules of LANGUAGE.md that the words of the source show. It is run from the project's folder. */
public final class LanguageTest {
    private static final Path SOURCE = Path.of("src/main/java/PromiseTailor.java");
    private static final int MOST_LINES = 60;

    public static void main(String[] args) throws Exception {
        String source = Files.readString(SOURCE, StandardCharsets.ISO_8859_1);
        String code = source.replaceAll("(?s)/\\*.*?\\*/", "").replaceAll("//[^\n]*", "");
        for (char c : source.toCharArray()) {
            if (c > 126 || c < 32 && c != '\n') {
                Check.due("a sign that is not plain: " + (int) c, 0, 1);
            }
        }
        none(code, "\\b(throw|throws|try|catch|synchronized|assert|instanceof|package|native|volatile|transient)\\b");
        none(code, "\\b(double|float|Object|Thread|Random|Exception|Error)\\b");
        none(code, "->|::|@|\"");
        none(code, "\\bpublic static (?!final int NONE)|\\bprotected\\b");
        onlyListed(code, "import ([\\w.]+)", "java.util.Arrays");
        onlyListed(code, "\\b((?:Integer|Long|Math|Arrays|System|String)\\.\\w+)", "Integer.bitCount", "Integer.numberOfTrailingZeros",
            "Math.min", "Math.max", "Arrays.fill", "System.arraycopy");
        rowsAreMadeInFieldsAlone(code);
        methodsAreShort(code);
        Check.end();
    }

    private static void none(String code, String pattern) {
        Matcher m = Pattern.compile(pattern).matcher(code);
        boolean found = m.find();
        Check.due(found ? "the code has '" + m.group() + "'" : pattern, found ? 1 : 0, 0);
    }

    private static void onlyListed(String code, String pattern, String... listed) {
        Set<String> all = new HashSet<>(Arrays.asList(listed));
        Matcher m = Pattern.compile(pattern).matcher(code);
        while (m.find()) {
            Check.due(m.group(1) + " is listed", all.contains(m.group(1)) ? 1 : 0, 1);
        }
    }

    /** No call makes an object, so a run of any length needs no more room than its objects. */
    private static void rowsAreMadeInFieldsAlone(String code) {
        for (String line : code.split("\n")) {
            if (line.contains("new ")) {
                Check.due("made in a field: " + line.strip(), line.matches("\\s+(private )?final [\\w\\[\\]]+ \\w+ = new .*;") ? 1 : 0, 1);
            }
        }
    }

    private static void methodsAreShort(String code) {
        String[] lines = code.split("\n");
        int start = -1;
        int depth = 0;
        for (int i = 0; i < lines.length; i++) {
            if (start < 0 && lines[i].matches("    (    )?[\\w\\[\\] ]+\\([^;]*\\) \\{") && !lines[i].matches("\\s*(if|for|while|switch)\\b.*")) {
                start = i;
                depth = 0;
            }
            if (start >= 0) {
                depth += count(lines[i], '{') - count(lines[i], '}');
                if (depth == 0) {
                    Check.due("short: " + lines[start].strip(), i - start + 1 <= MOST_LINES ? 1 : 0, 1);
                    start = -1;
                }
            }
        }
    }

    private static int count(String line, char c) {
        return (int) line.chars().filter(v -> v == c).count();
    }
}
