import java.io.IOException;
import java.lang.reflect.Field;
import java.lang.reflect.InvocationTargetException;
import java.lang.reflect.Method;
import java.lang.reflect.Modifier;
import java.nio.file.Files;
import java.nio.file.Path;
import java.util.regex.Matcher;
import java.util.regex.Pattern;
import java.util.stream.Stream;

/** What README.md says of the class and of its tests is so. Runs in the project's folder. */
public final class ReadmeTest {
    private static final Checks CHECKS = new Checks("ReadmeTest");
    private static final Pattern CALL = Pattern.compile("x\\.(\\w+)\\(([^)]*)\\);\\s*// (-?\\d+)\\b.*");

    public static void main(String[] args) throws IOException, ReflectiveOperationException {
        String page = Files.readString(Path.of("README.md"));
        example(page);
        names(page);
        tests(page);
        CHECKS.end();
    }

    private static void example(String page) throws ReflectiveOperationException {
        String code = between(page, "```java\n", "```");
        TwinThreads x = new TwinThreads();
        int calls = 0;
        for (String line : code.split("\n")) {
            Matcher call = CALL.matcher(line);
            if (call.matches()) {
                calls++;
                CHECKS.due(line, answer(x, call.group(1), call.group(2)), Long.parseLong(call.group(3)));
            } else {
                CHECKS.holds("a call with its answer: " + line, line.equals("TwinThreads x = new TwinThreads();"));
            }
        }
        CHECKS.holds("the example has calls", calls > 0);
    }

    private static String between(String page, String begin, String end) {
        int from = page.indexOf(begin);
        int to = from < 0 ? -1 : page.indexOf(end, from + begin.length());
        CHECKS.holds("the page has " + begin.trim(), to >= 0);
        return to < 0 ? "" : page.substring(from + begin.length(), to);
    }

    private static long answer(TwinThreads x, String name, String values)
        throws IllegalAccessException, InvocationTargetException, NoSuchFieldException {
        String[] texts = values.isEmpty() ? new String[0] : values.split(", ");
        for (Method method : TwinThreads.class.getMethods()) {
            if (method.getName().equals(name) && method.getParameterCount() == texts.length) {
                Object[] given = new Object[texts.length];
                for (int at = 0; at < texts.length; at++) {
                    long value = value(texts[at]);
                    given[at] = method.getParameterTypes()[at] == long.class ? (Object) value : (Object) (int) value;
                }
                return (int) method.invoke(x, given);
            }
        }
        CHECKS.holds("there is a call " + name + " of " + texts.length, false);
        return 0;
    }

    private static long value(String text) throws IllegalAccessException, NoSuchFieldException {
        if (text.startsWith("TwinThreads.")) {
            return TwinThreads.class.getField(text.substring(text.indexOf('.') + 1)).getInt(null);
        }
        return Long.decode(text.replace("L", ""));
    }

    private static void names(String page) {
        for (Method method : TwinThreads.class.getDeclaredMethods()) {
            if (Modifier.isPublic(method.getModifiers())) {
                CHECKS.holds("the page names " + method.getName(), page.contains("`" + method.getName() + "`"));
            }
        }
        for (Field field : TwinThreads.class.getFields()) {
            CHECKS.holds("the page names " + field.getName(), page.contains("`" + field.getName() + "`"));
        }
    }

    private static void tests(String page) throws IOException {
        try (Stream<Path> files = Files.list(Path.of("src/test/java"))) {
            files.map(file -> file.getFileName().toString().replace(".java", "")).forEach(name ->
                CHECKS.holds("the page names the test file " + name, page.contains("`" + name + "`")));
        }
        Matcher named = Pattern.compile("`(\\w+Test|Model|Observed|Checks)`").matcher(page);
        while (named.find()) {
            CHECKS.holds("there is a file " + named.group(1), Files.exists(Path.of("src/test/java/" + named.group(1) + ".java")));
        }
    }
}
