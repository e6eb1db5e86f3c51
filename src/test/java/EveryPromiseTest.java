import java.io.IOException;
import java.lang.reflect.Method;
import java.lang.reflect.Modifier;
import java.nio.file.DirectoryStream;
import java.nio.file.Files;
import java.nio.file.Path;
import java.util.ArrayList;
import java.util.List;
import java.util.TreeSet;
import java.util.regex.Matcher;
import java.util.regex.Pattern;

/**
 * The document from its first line, against the tests and the class: every promise is named by a test, every sentence is
 * quoted by one, and the face is the class's. It is run from the project's folder.
 */
public final class EveryPromiseTest {
    private static final Path DOCUMENT = Path.of("../shared/DOC.md");
    private static final int PROMISES = 38;
    private static final Pattern QUOTE = Pattern.compile("Edge\\.sentence\\((\\d+), (\"[^\"]*\"(?:\\s*\\+\\s*\"[^\"]*\")*)\\)");
    private static final Pattern HEADING = Pattern.compile("## Promise (\\d+): (A new object|\\w+)");

    /** What a test quotes, and the promise that it names. */
    private record Quote(int promise, String words) { }

    private EveryPromiseTest() {
    }

    public static void main(String[] args) throws Exception {
        List<Quote> quotes = quotes();
        for (int promise = 1; promise <= PROMISES; promise++) {
            int number = promise;
            says("a test names promise " + promise, quotes.stream().anyMatch(q -> q.promise == number));
        }
        // as in Edge, the document is looked up if it is beside the project
        if (Files.exists(DOCUMENT)) {
            String text = Files.readString(DOCUMENT);
            face(text);
            headings(text);
            sentences(text.replaceAll("```java[^`]*```", " ").replaceAll("```(text)?", " ").replaceAll("\\s+", " "), quotes);
        }
        Check.end();
    }

    private static void says(String what, boolean so) {
        Check.due(what, so ? 1 : 0, 1);
    }

    private static List<Quote> quotes() throws IOException {
        List<Quote> all = new ArrayList<>();
        try (DirectoryStream<Path> files = Files.newDirectoryStream(Path.of("src/test/java"), "EdgesOf*Test.java")) {
            for (Path file : files) {
                Matcher m = QUOTE.matcher(Files.readString(file));
                while (m.find()) {
                    String words = m.group(2).replaceAll("\"\\s*\\+\\s*\"", "");
                    all.add(new Quote(Integer.parseInt(m.group(1)), words.substring(1, words.length() - 1)));
                }
            }
        }
        return all;
    }

    /** The document's lines of methods and constants are the public ones of the class, and no more. */
    private static void face(String text) throws Exception {
        TreeSet<String> want = new TreeSet<>();
        Matcher m = Pattern.compile("    public (int|long) (\\w+)\\(([^)]*)\\);").matcher(text);
        while (m.find()) {
            want.add(m.group(1) + " " + m.group(2) + " " + (m.group(3).isEmpty() ? 0 : m.group(3).split(",").length));
        }
        TreeSet<String> got = new TreeSet<>();
        for (Method method : PromiseTailor.class.getDeclaredMethods()) {
            if (!Modifier.isPrivate(method.getModifiers())) {
                got.add(method.getReturnType() + " " + method.getName() + " " + method.getParameterCount());
            }
        }
        says("the face's methods " + want + " are the class's " + got, want.equals(got));
        Check.due("methods of the face", want.size(), PROMISES - 1);
        Matcher constants = Pattern.compile("public static final int ([^;]*);").matcher(text);
        says("the face has constants", constants.find());
        for (String constant : constants.group(1).split(", ")) {
            String[] parts = constant.split(" = ");
            Check.due(parts[0], PromiseTailor.class.getField(parts[0]).getInt(null), Integer.parseInt(parts[1]));
        }
        Check.due("public fields", PromiseTailor.class.getFields().length, constants.group(1).split(", ").length);
    }

    private static void headings(String text) {
        Matcher m = HEADING.matcher(text);
        int promise = 0;
        while (m.find()) {
            promise++;
            Check.due("the number of a heading", Integer.parseInt(m.group(1)), promise);
            says("promise " + promise + " tells its call", text.startsWith("\n\n`", m.end()));
        }
        Check.due("promises of the document", promise, PROMISES);
    }

    /** Each sentence shares words with a quote: of its own promise, or ahead of the promises of any. */
    private static void sentences(String text, List<Quote> quotes) {
        int first = text.indexOf("## Promise 1:");
        int start = text.indexOf("1 PEOPLE are a text");
        int end = text.indexOf("## Not promised");
        says("the document has its parts", start >= 0 && first > start && end > first);
        boolean[] quoted = quotedSigns(text, quotes, first);
        Matcher m = Pattern.compile("[^.]+(\\.(?! [A-Z(=`#-]|$)[^.]*)*\\.").matcher(text);
        m.region(start, end);
        while (m.find()) {
            String sentence = m.group().strip();
            if (!sentence.startsWith("Ahead of the calls")) {
                says("a test quotes of: " + sentence, anyIn(quoted, m.start(), m.end()));
            }
        }
    }

    private static boolean[] quotedSigns(String text, List<Quote> quotes, int first) {
        boolean[] quoted = new boolean[text.length()];
        for (Quote quote : quotes) {
            int own = text.indexOf("## Promise " + quote.promise + ":");
            int next = text.indexOf("## ", own + 3);
            for (int at = text.indexOf(quote.words); at >= 0; at = text.indexOf(quote.words, at + 1)) {
                if (at < first || at > own && at < next) {
                    java.util.Arrays.fill(quoted, at, at + quote.words.length(), true);
                }
            }
        }
        return quoted;
    }

    private static boolean anyIn(boolean[] quoted, int from, int to) {
        for (int i = from; i < to; i++) {
            if (quoted[i]) {
                return true;
            }
        }
        return false;
    }
}
