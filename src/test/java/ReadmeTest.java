import java.io.IOException;
import java.lang.reflect.InvocationTargetException;
import java.lang.reflect.Method;
import java.nio.file.Files;
import java.nio.file.Path;
import java.util.regex.Matcher;
import java.util.regex.Pattern;

/** Each call of README.md's example answers what the example says behind it, and the tests that it names are those. */
public final class ReadmeTest {
    private static final String MADE = "Crosshatch x = new Crosshatch();";
    private static final Pattern CALL =
            Pattern.compile("x\\.(\\w+)\\(([^)]*)\\); +// (\"[^\"]*\"|throws \\w+|true|false|-?\\d+): .+");

    private ReadmeTest() {
    }

    public static void main(String[] args) throws IOException, IllegalAccessException {
        String readme = Files.readString(Path.of("README.md"));
        example(between(readme, "```java\n", "```"));
        tests(between(readme, "|---|---|\n", "\n\n"));
        Due.end();
    }

    private static String between(String text, String from, String to) {
        int start = text.indexOf(from) + from.length();
        return text.substring(start, text.indexOf(to, start));
    }

    private static void example(String example) throws IllegalAccessException {
        String[] lines = example.split("\n");
        Due.is("the example's first line makes one", lines[0].startsWith(MADE), true);
        Crosshatch x = new Crosshatch();
        for (int k = 1; k < lines.length; k++) {
            Matcher call = CALL.matcher(lines[k]);
            boolean isCall = call.matches();
            Due.is(lines[k] + " is a call with its answer", isCall, true);
            if (isCall) {
                Due.is(lines[k], answer(x, call.group(1), call.group(2)), call.group(3));
            }
        }
        Due.is("the example has calls", lines.length > 20, true);
    }

    private static String answer(Crosshatch x, String name, String told) throws IllegalAccessException {
        String[] texts = told.isEmpty() ? new String[0] : told.split(", ");
        for (Method method : Crosshatch.class.getMethods()) {
            Class<?>[] types = method.getParameterTypes();
            if (method.getName().equals(name) && types.length == texts.length) {
                Object[] values = new Object[types.length];
                for (int k = 0; k < types.length; k++) {
                    values[k] = types[k] == int.class ? Integer.valueOf(texts[k]) : (Object) Boolean.valueOf(texts[k]);
                }
                return made(x, method, values);
            }
        }
        return "there is no such method";
    }

    private static String made(Crosshatch x, Method method, Object[] values) throws IllegalAccessException {
        try {
            Object answer = method.invoke(x, values);
            return answer instanceof String ? "\"" + answer + "\"" : String.valueOf(answer);
        } catch (InvocationTargetException thrown) {
            return "throws " + thrown.getCause().getClass().getSimpleName();
        }
    }

    private static void tests(String table) throws IOException {
        try (var files = Files.list(Path.of("src/test/java"))) {
            for (Path file : (Iterable<Path>) files::iterator) {
                String name = file.getFileName().toString().replace(".java", "");
                if (name.endsWith("Test")) {
                    Due.is("README.md names " + name, table.contains(name), true);
                }
            }
        }
    }
}
