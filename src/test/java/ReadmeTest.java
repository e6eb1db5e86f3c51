import java.lang.reflect.InvocationTargetException;
import java.lang.reflect.Method;
import java.nio.file.Files;
import java.nio.file.Path;
import java.util.List;
import java.util.regex.Matcher;
import java.util.regex.Pattern;

/**
 * The example of README.md: its calls are made as they stand there, and each answer told behind one is due. It is run
 * from the project's folder.
 */
public final class ReadmeTest {
    private static final Path README = Path.of("README.md");
    private static final Pattern MAKING = Pattern.compile("PromiseTailor x = new PromiseTailor\\(\\);");
    private static final Pattern TYPING = Pattern.compile("for \\(char c : \"([^\"]*)\"\\.toCharArray\\(\\)\\) x\\.type\\(([01]), c\\);\\s+// .+");
    private static final Pattern CALL = Pattern.compile("x\\.(\\w+)\\(([^()]*)\\);\\s+// (-?\\d+): .+");

    private static PromiseTailor x = null;
    private static int lines = 0;

    private ReadmeTest() {
    }

    public static void main(String[] args) throws Exception {
        List<String> readme = Files.readAllLines(README);
        boolean inExample = false;
        for (String line : readme) {
            boolean fence = line.startsWith("```");
            if (inExample && !fence && !line.isBlank()) {
                follow(line.strip());
            }
            inExample = fence ? line.equals("```java") : inExample;
        }
        Check.due("README.md has an example of some length", lines >= 10 ? 1 : 0, 1);
        namesEveryCall(String.join("\n", readme));
        Check.due("README.md says how the tests are run", readme.contains("    .ci/run") ? 1 : 0, 1);
        Check.due(".ci/run can be run", Files.isExecutable(Path.of(".ci/run")) ? 1 : 0, 1);
        Check.end();
    }

    private static void follow(String line) throws Exception {
        lines++;
        Matcher typing = TYPING.matcher(line);
        Matcher call = CALL.matcher(line);
        if (MAKING.matcher(line).matches()) {
            x = new PromiseTailor();
        } else if (x != null && typing.matches()) {
            Check.typeAll(x, Integer.parseInt(typing.group(2)), typing.group(1));
        } else if (x != null && call.matches()) {
            Check.due("README.md: " + line, answer(call.group(1), call.group(2)), Long.parseLong(call.group(3)));
        } else {
            Check.due("README.md: a line that tells no answer, or comes ahead of the object: " + line, 0, 1);
        }
    }

    private static long answer(String name, String list) throws Exception {
        String[] told = list.isEmpty() ? new String[0] : list.split(", ");
        Class<?>[] types = new Class<?>[told.length];
        Object[] numbers = new Object[told.length];
        for (int i = 0; i < told.length; i++) {
            types[i] = int.class;
            numbers[i] = told[i].equals("PromiseTailor.NONE") ? PromiseTailor.NONE : Integer.parseInt(told[i]);
        }
        try {
            return ((Number) PromiseTailor.class.getMethod(name, types).invoke(x, numbers)).longValue();
        } catch (InvocationTargetException e) {
            throw new IllegalStateException(name + " threw", e.getCause());
        }
    }

    private static void namesEveryCall(String readme) {
        for (Method m : PromiseTailor.class.getDeclaredMethods()) {
            if (java.lang.reflect.Modifier.isPublic(m.getModifiers())) {
                Check.due("README.md tells of " + m.getName(), readme.contains("`" + m.getName() + "(") ? 1 : 0, 1);
            }
        }
    }
}
