import java.io.IOException;
import java.lang.reflect.InvocationTargetException;
import java.lang.reflect.Method;
import java.lang.reflect.Modifier;
import java.nio.file.Files;
import java.nio.file.Path;
import java.util.Arrays;
import java.util.Set;
import java.util.TreeSet;
import java.util.regex.Matcher;
import java.util.regex.Pattern;

/** README.md: its example answers what it says, and it tells each method of the face with its exceptions. */
public final class ReadmeTest {
    private static final Path README = Path.of("README.md");

    private static final Pattern EXAMPLE = Pattern.compile("(?s)```java\n(.*?)```");
    private static final Pattern CALL =
            Pattern.compile("index\\.(\\w+)\\(([^)]*)\\);\\s+// (-?\\d+|NONE|nothing|throws \\w+)(: .*)?");
    private static final Pattern TOLD = Pattern.compile("(?ms)^### `\\w+ (\\w+)\\(([^)]*)\\)`$(.*?)(?=^##|\\z)");
    private static final Pattern EXCEPTION = Pattern.compile("`(\\w+Exception)`");

    public static void main(String[] args) throws IOException, ReflectiveOperationException {
        String text = Files.readString(README);
        example(text);
        face(text);
        Check.compare("names .ci/run", text.contains(".ci/run") + "", "true");
        Check.end();
    }

    private static void example(String text) throws ReflectiveOperationException {
        Matcher block = EXAMPLE.matcher(text);
        Check.compare("has an example", block.find() + "", "true");
        SegmentIndex index = new SegmentIndex();
        Set<String> used = new TreeSet<>();
        for (String line : block.group(1).split("\n")) {
            if (line.startsWith("index.")) {
                Matcher call = CALL.matcher(line);
                Check.compare("can be read: " + line, call.matches() + "", "true");
                String want = call.group(3).equals("NONE") ? SegmentIndex.NONE + "" : call.group(3);
                Check.compare(line, answer(index, call.group(1), call.group(2)), want);
                used.add(call.group(1));
            }
        }
        Check.compare("the example makes many of the calls", (used.size() > 10) + "", "true");
    }

    private static String answer(SegmentIndex index, String name, String arguments)
            throws ReflectiveOperationException {
        Object[] given = arguments.isEmpty()
                ? new Object[0]
                : Arrays.stream(arguments.split(", ")).map(Integer::decode).toArray();
        Class<?>[] types = new Class<?>[given.length];
        Arrays.fill(types, int.class);
        try {
            Object answered = SegmentIndex.class.getMethod(name, types).invoke(index, given);
            return answered == null ? "nothing" : answered.toString();
        } catch (InvocationTargetException e) {
            return "throws " + e.getCause().getClass().getSimpleName();
        }
    }

    private static void face(String text) {
        Set<String> told = new TreeSet<>();
        Matcher part = TOLD.matcher(text);
        while (part.find()) {
            int parameters = part.group(2).isEmpty() ? 0 : part.group(2).split(", ").length;
            told.add(part.group(1) + " " + parameters + " " + exceptionsIn(part.group(3)));
        }
        Set<String> due = new TreeSet<>();
        for (Method m : SegmentIndex.class.getDeclaredMethods()) {
            if (Modifier.isPublic(m.getModifiers())) {
                due.add(m.getName() + " " + m.getParameterCount() + " " + exceptionsOf(m));
            }
        }
        Check.compare("methods told with their exceptions", told.toString(), due.toString());
    }

    private static Set<String> exceptionsIn(String part) {
        Set<String> names = new TreeSet<>();
        Matcher found = EXCEPTION.matcher(part);
        while (found.find()) {
            names.add(found.group(1));
        }
        return names;
    }

    private static Set<String> exceptionsOf(Method m) {
        Set<String> names = new TreeSet<>();
        for (Class<?> c : m.getExceptionTypes()) {
            names.add(c.getSimpleName());
        }
        return names;
    }
}
