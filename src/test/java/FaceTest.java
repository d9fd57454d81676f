import java.io.IOException;
import java.lang.reflect.Constructor;
import java.lang.reflect.Field;
import java.lang.reflect.Method;
import java.lang.reflect.Modifier;
import java.nio.file.Files;
import java.nio.file.Path;
import java.util.ArrayList;
import java.util.Arrays;
import java.util.HashSet;
import java.util.List;
import java.util.Set;
import java.util.TreeSet;
import java.util.regex.Matcher;
import java.util.regex.Pattern;

/** The public face is just the document's, and the source keeps to what a look can tell of ../shared/LANGUAGE.md. */
public final class FaceTest {
    private static final Path SOURCE = Path.of("src/main/java/Crosshatch.java");
    private static final Path DOCUMENT = Path.of("../shared/DOC.md");

    private FaceTest() {
    }

    public static void main(String[] args) throws IOException {
        face();
        hidden();
        source(Files.readString(SOURCE));
        Due.end();
    }

    private static void face() throws IOException {
        Set<String> want = new TreeSet<>();
        Matcher lines = Pattern.compile("(?m)^    public (int|boolean|long|String) (\\w+\\(.*\\))(?: throws (.*))?;$")
                .matcher(Files.readString(DOCUMENT));
        while (lines.find()) {
            String types = lines.group(2).replaceAll("(int|boolean) \\w+", "$1");
            want.add(lines.group(1) + " " + types + " " + (lines.group(3) == null ? "" : lines.group(3)));
        }
        Set<String> got = new TreeSet<>();
        for (Method method : Crosshatch.class.getDeclaredMethods()) {
            if (!Modifier.isPrivate(method.getModifiers()) && !method.isSynthetic()) {
                Due.is("modifiers of " + method.getName(), method.getModifiers(), Modifier.PUBLIC);
                got.add(method.getReturnType().getSimpleName() + " " + method.getName() + "("
                        + names(method.getParameterTypes()) + ") " + names(method.getExceptionTypes()));
            }
        }
        Due.is("methods", got, want);
        Due.is("there are 54 of them", got.size(), 54);
        Due.is("class", Crosshatch.class.getModifiers(), Modifier.PUBLIC | Modifier.FINAL);
        Constructor<?>[] made = Crosshatch.class.getDeclaredConstructors();
        Due.is("constructors", made.length, 1);
        Due.is("constructor", made[0].getModifiers(), Modifier.PUBLIC);
        Due.is("its arguments", made[0].getParameterCount(), 0);
    }

    private static String names(Class<?>[] types) {
        List<String> names = new ArrayList<>();
        for (Class<?> type : types) {
            names.add(type.getSimpleName());
        }
        return String.join(", ", names);
    }

    private static void hidden() {
        Set<String> face = new HashSet<>();
        for (Method method : Crosshatch.class.getMethods()) {
            face.add(method.getName());
        }
        List<Class<?>> classes = new ArrayList<>(Arrays.asList(Crosshatch.class.getDeclaredClasses()));
        Due.is("some twelve classes at most", classes.size() <= 14, true);
        for (Field field : Crosshatch.class.getDeclaredFields()) {
            Due.is("private " + field, Modifier.isPrivate(field.getModifiers()), true);
        }
        classes.add(Crosshatch.class);
        for (Class<?> it : classes) {
            int kept = 0;
            for (Field field : it.getDeclaredFields()) {
                boolean isStatic = Modifier.isStatic(field.getModifiers());
                kept += isStatic ? 0 : 1;
                Due.is("final " + field, !isStatic || Modifier.isFinal(field.getModifiers()), true);
            }
            Due.is("some twenty fields of " + it, kept <= 24, true);
            Due.is("static or none " + it, it == Crosshatch.class || !Modifier.isPublic(it.getModifiers()), true);
            for (Method method : it.getDeclaredMethods()) {
                Due.is("parameters of " + method, method.getParameterCount() <= 7, true);
                boolean isHidden = it == Crosshatch.class && Modifier.isPrivate(method.getModifiers());
                Due.is("name of " + method, isHidden && face.contains(method.getName()), false);
            }
        }
    }

    private static void none(String source, String rule) {
        Matcher found = Pattern.compile(rule).matcher(source);
        Due.is("no " + rule, found.find() ? found.group() : "", "");
    }

    private static void source(String whole) {
        Due.is("only signs 1 to 127", whole.chars().allMatch(c -> c > 0 && c < 128), true);
        none(whole, "\"\\s*\\+|\\+\\s*\"");
        String source = whole.replaceAll("(?s)/\\*.*?\\*/", "").replaceAll("//[^\\n]*", "")
                .replaceAll("\"[^\"\\n]*\"", "\"\"");
        none(source, "(?m)^package .*");
        none(source, "import (?!java\\.util\\.(ArrayList|List|Arrays|Iterator|NoSuchElementException);).*");
        none(source, "System\\.(?!arraycopy\\()\\w*");
        none(source, "\\b(finally|synchronized|assert|hashCode|Thread|Random|Class|Object|native|volatile)\\b");
        none(source, "\\w+Exact\\(");
        none(source, "::");
        none(source, "(?m)^(?!.*\\b(case|default)\\b).*->.*$");
        none(source, "catch \\((?!IllegalStateException|IllegalArgumentException|IndexOutOfBoundsException"
                + "|ArithmeticException|UnsupportedOperationException|NoSuchElementException|RuntimeException)[^)]*");
        none(source, "throw (?!new (IllegalStateException|IllegalArgumentException|IndexOutOfBoundsException"
                + "|ArithmeticException|UnsupportedOperationException|NoSuchElementException|RuntimeException)"
                + "\\((\"\")?\\);)[^;]*;");
        none(source, "(?m)^\\s*static \\{");
        Matcher methods = Pattern.compile("(?ms)^( {4}| {8})[a-zA-Z][^\\n;=]*\\{$.*?^\\1\\}$").matcher(source);
        while (methods.find()) {
            String text = methods.group();
            if (!Pattern.compile("\\b(class|interface|enum|record) ").matcher(text).find()) {
                Due.is("some sixty lines: " + text.lines().findFirst().orElse(""), text.lines().count() <= 70, true);
            }
        }
    }
}
