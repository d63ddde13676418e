import java.io.IOException;
import java.lang.reflect.Field;
import java.lang.reflect.Method;
import java.lang.reflect.Modifier;
import java.nio.file.Files;
import java.nio.file.Path;
import java.util.Set;
import java.util.TreeSet;
import java.util.regex.Matcher;
import java.util.regex.Pattern;

/** The example of README.md answers what its comments say; its tables name every call, constant and test. */
public final class ReadmeTest {
    private static final Pattern BLOCK = Pattern.compile("(?s)```java\n(.*?)```");
    private static final Pattern CALL = Pattern.compile("x\\.(\\w+)\\(([^)]*)\\); +// (\\w+).*");
    private static final Pattern CALL_ROW = Pattern.compile("(?m)^\\| `(\\w+)\\(([^)]*)\\)` \\|");
    private static final Pattern CONSTANT_ROW = Pattern.compile("(?m)^\\| `([A-Z_]+)` \\| (-\\d+) \\|");
    private static final Pattern TEST_LINE = Pattern.compile("(?m)^- `(\\w+)`: ");
    private static final String FIRST_LINE = "BoundTrees x = new BoundTrees();";

    private static int wrong = 0;

    private static void check(boolean fine, String what) {
        if (!fine) {
            wrong++;
            System.out.println("README.md: " + what);
        }
    }

    private static Method methodNamed(String name) {
        for (Method m : BoundTrees.class.getDeclaredMethods()) {
            if (Modifier.isPublic(m.getModifiers()) && m.getName().equals(name)) {
                return m;
            }
        }
        return null;
    }

    private static Object argument(String text, Class<?> type) {
        if (type == boolean.class) {
            return Boolean.valueOf(text);
        }
        return text.equals("BoundTrees.NONE") ? BoundTrees.NONE : Integer.parseInt(text);
    }

    /** A number, true or false as it stands; a constant's name as its value. */
    private static String answer(String word) throws ReflectiveOperationException {
        if (word.matches("[A-Z_]+")) {
            return BoundTrees.class.getField(word).get(null).toString();
        }
        return word;
    }

    private static void call(BoundTrees x, String line) throws ReflectiveOperationException {
        Matcher m = CALL.matcher(line);
        if (!m.matches()) {
            check(false, "a line of the example without a call or an answer: " + line);
            return;
        }
        Method method = methodNamed(m.group(1));
        String[] texts = m.group(2).split(", ");
        if (method == null || method.getParameterCount() != texts.length) {
            check(false, "no such call: " + line);
            return;
        }
        Object[] arguments = new Object[texts.length];
        for (int i = 0; i < texts.length; i++) {
            arguments[i] = argument(texts[i], method.getParameterTypes()[i]);
        }
        String got = method.invoke(x, arguments).toString();
        check(got.equals(answer(m.group(3))), line + " answered " + got);
    }

    private static void example(String text) throws ReflectiveOperationException {
        Matcher block = BLOCK.matcher(text);
        if (!block.find()) {
            check(false, "there is no example");
            return;
        }
        String[] lines = block.group(1).split("\n");
        check(lines.length > 1 && lines[0].equals(FIRST_LINE), "the example's first line");
        BoundTrees x = new BoundTrees();
        for (int i = 1; i < lines.length; i++) {
            call(x, lines[i]);
        }
    }

    private static void calls(String text) {
        Set<String> named = new TreeSet<>();
        for (Matcher row = CALL_ROW.matcher(text); row.find();) {
            named.add(row.group(1) + " " + row.group(2).split(", ").length);
        }
        Set<String> there = new TreeSet<>();
        for (Method m : BoundTrees.class.getDeclaredMethods()) {
            if (Modifier.isPublic(m.getModifiers())) {
                there.add(m.getName() + " " + m.getParameterCount());
            }
        }
        check(named.equals(there), "the calls named are " + named + ", those there " + there);
    }

    private static void constants(String text) throws ReflectiveOperationException {
        Set<String> named = new TreeSet<>();
        for (Matcher row = CONSTANT_ROW.matcher(text); row.find();) {
            named.add(row.group(1) + " " + row.group(2));
        }
        Set<String> there = new TreeSet<>();
        for (Field f : BoundTrees.class.getFields()) {
            if (f.getType() == int.class && f.getInt(null) < 0) {
                there.add(f.getName() + " " + f.getInt(null));
            }
        }
        check(named.equals(there), "the refusals named are " + named + ", those there " + there);
    }

    private static void tests(String text) throws IOException {
        Set<String> named = new TreeSet<>();
        for (Matcher line = TEST_LINE.matcher(text); line.find();) {
            named.add(line.group(1) + ".java");
        }
        Set<String> there = new TreeSet<>();
        try (var files = Files.list(Path.of("src/test/java"))) {
            files.forEach(file -> there.add(file.getFileName().toString()));
        }
        check(named.equals(there), "the tests named are " + named + ", those there " + there);
    }

    public static void main(String[] args) throws IOException, ReflectiveOperationException {
        String text = Files.readString(Path.of("README.md"));
        example(text);
        calls(text);
        constants(text);
        tests(text);
        if (wrong > 0) {
            System.exit(1);
        }
        System.out.println("README.md is as the class");
    }
}
