import java.io.IOException;
import java.lang.management.ManagementFactory;
import java.lang.reflect.Constructor;
import java.lang.reflect.Field;
import java.lang.reflect.Method;
import java.lang.reflect.Modifier;
import java.nio.file.Files;
import java.nio.file.Path;
import java.util.Arrays;
import java.util.Set;
import java.util.TreeSet;
import java.util.regex.Matcher;
import java.util.regex.Pattern;

/** The face, and the rules of ../shared/LANGUAGE.md that can be seen from the class or its text. Runs in the project's folder. */
public final class FaceTest {
    private static final Checks CHECKS = new Checks("FaceTest");
    private static final String[] CONSTANTS = {"NO_SUCH=-1", "BAD_VALUE=-2", "BAD_TEXT=-3", "TOO_MANY=-4",
        "NOT_POSSIBLE=-5", "NONE=-6", "TURNS=0", "PRODUCT=1", "CELL=2"};
    private static final String[] METHODS = {"set(int,int)", "put(long)", "wipe()", "fault()", "program(int)", "drop(int)",
        "first(int,int,int)", "exchange()", "ofOrder(int,int,int)", "ofThread(int,int)", "last(int,int)",
        "ofStep(int,int,int)", "at(int,int)", "count(int)", "alone(int)", "lengthWith(int)", "bestTurns()",
        "lengthWithout(int)", "bestExchange(int,int)", "undo()", "save(int)", "restore(int)"};

    public static void main(String[] args) throws IOException, IllegalAccessException {
        constants();
        methods();
        constructors();
        classesInside();
        text();
        room();
        CHECKS.end();
    }

    private static void constants() throws IllegalAccessException {
        Set<String> found = new TreeSet<>();
        for (Field field : TwinThreads.class.getDeclaredFields()) {
            int how = field.getModifiers();
            CHECKS.holds(field + " is public or private", Modifier.isPublic(how) || Modifier.isPrivate(how));
            CHECKS.holds(field + " is final if it is static", !Modifier.isStatic(how) || Modifier.isFinal(how));
            if (Modifier.isPublic(how)) {
                CHECKS.holds(field + " is an int constant", Modifier.isStatic(how) && field.getType() == int.class);
                found.add(field.getName() + "=" + field.getInt(null));
            }
        }
        same("the constants", found, CONSTANTS);
    }

    private static void methods() {
        Set<String> found = new TreeSet<>();
        Set<String> names = new TreeSet<>();
        for (Method method : TwinThreads.class.getDeclaredMethods()) {
            int how = method.getModifiers();
            CHECKS.holds(method + " is public or private", Modifier.isPublic(how) || Modifier.isPrivate(how));
            if (Modifier.isPublic(how)) {
                CHECKS.holds(method + " answers an int", method.getReturnType() == int.class && !Modifier.isStatic(how));
                found.add(signature(method));
                names.add(method.getName());
            }
        }
        same("the methods", found, METHODS);
        for (Method method : TwinThreads.class.getDeclaredMethods()) {
            CHECKS.holds(method + " has a name of its own",
                Modifier.isPublic(method.getModifiers()) || !names.contains(method.getName()));
        }
        for (Class<?> type : TwinThreads.class.getDeclaredClasses()) {
            for (Method method : type.getDeclaredMethods()) {
                CHECKS.holds(method + " has a name of its own",
                    !Modifier.isPrivate(method.getModifiers()) || !names.contains(method.getName()));
            }
        }
    }

    private static String signature(Method method) {
        StringBuilder types = new StringBuilder();
        for (Class<?> type : method.getParameterTypes()) {
            types.append(types.length() == 0 ? "" : ",").append(type.getName());
        }
        return method.getName() + "(" + types + ")";
    }

    private static void constructors() {
        Constructor<?>[] constructors = TwinThreads.class.getDeclaredConstructors();
        CHECKS.due("constructors", constructors.length, 1);
        CHECKS.holds("it is public and takes nothing",
            Modifier.isPublic(constructors[0].getModifiers()) && constructors[0].getParameterCount() == 0);
        int how = TwinThreads.class.getModifiers();
        CHECKS.holds("the class is public and final", Modifier.isPublic(how) && Modifier.isFinal(how));
    }

    private static void classesInside() {
        Class<?>[] inside = TwinThreads.class.getDeclaredClasses();
        CHECKS.holds("at most some twelve classes", inside.length <= 12);
        for (Class<?> type : inside) {
            int how = type.getModifiers();
            CHECKS.holds(type + " is static", Modifier.isStatic(how));
            CHECKS.holds(type + " is private or package-visible", !Modifier.isPublic(how) && !Modifier.isProtected(how));
            long fields = Arrays.stream(type.getDeclaredFields()).filter(f -> !Modifier.isStatic(f.getModifiers())).count();
            CHECKS.holds(type + " has at most some twenty fields", fields <= 20);
            for (Field field : type.getDeclaredFields()) {
                CHECKS.holds(field + " is final if it is static",
                    !Modifier.isStatic(field.getModifiers()) || Modifier.isFinal(field.getModifiers()));
            }
            for (Method method : type.getDeclaredMethods()) {
                CHECKS.holds(method + " has at most seven parameters", method.getParameterCount() <= 7);
            }
        }
    }

    private static void text() throws IOException {
        String whole = Files.readString(Path.of("src/main/java/TwinThreads.java"));
        String text = Pattern.compile("/\\*.*?\\*/|//[^\n]*", Pattern.DOTALL).matcher(whole).replaceAll("");
        for (String word : new String[] {"throw", "throws", "try", "catch", "synchronized", "assert", "package", "hashCode",
            "Object", "Class"}) {
            CHECKS.holds("the text has no " + word, !Pattern.compile("\\b" + word + "\\b").matcher(text).find());
        }
        Matcher imports = Pattern.compile("import\\s+([^;]*);").matcher(text);
        while (imports.find()) {
            CHECKS.holds("import " + imports.group(1),
                imports.group(1).matches("java\\.util\\.(ArrayList|List|Iterator|Arrays)"));
        }
        CHECKS.holds("no lambda or method reference",
            !text.replaceAll("(case\\s[^:;{}]*|default\\s*)->", "").contains("->") && !text.contains("::"));
        CHECKS.holds("no wild loop", !text.contains("while (true)") && !text.contains("for (;;)"));
        Matcher library = Pattern.compile("\\b(Math|System|Integer|Long|String|Arrays)\\.(\\w+)").matcher(text);
        while (library.find()) {
            CHECKS.holds(library.group() + " is in the library that is left", isLeft(library.group(1), library.group(2)));
        }
        for (char c : whole.toCharArray()) {
            CHECKS.holds("a sign of the text is 1 to 127", c >= 1 && c <= 127);
        }
        methodsAreShort(whole.split("\n"));
    }

    private static boolean isLeft(String type, String name) {
        return switch (type) {
            case "System" -> name.equals("arraycopy");
            case "Arrays" -> Set.of("copyOf", "copyOfRange", "fill").contains(name);
            case "String" -> false;
            default -> !name.endsWith("Exact") && !Set.of("random", "getInteger", "getLong").contains(name);
        };
    }

    private static void methodsAreShort(String[] lines) {
        int start = -1;
        String indent = "";
        for (int line = 0; line < lines.length; line++) {
            if (start < 0 && lines[line].matches(" +[\\w\\[\\]<> ]+\\(.*\\) \\{") && !lines[line].matches(" +(if|for|while|switch).*")) {
                start = line;
                indent = lines[line].replaceAll("\\S.*", "");
            } else if (start >= 0 && lines[line].equals(indent + "}")) {
                CHECKS.holds("short: " + lines[start].trim(), line - start <= 60);
                start = -1;
            }
        }
    }

    /** "some 600,000 objects and arrays, 7.3 million fields and elements in all": of at least 4 bytes each. */
    private static void room() {
        com.sun.management.ThreadMXBean meter = (com.sun.management.ThreadMXBean) ManagementFactory.getThreadMXBean();
        useAll(new TwinThreads());
        long before = meter.getCurrentThreadAllocatedBytes();
        useAll(new TwinThreads());
        long used = meter.getCurrentThreadAllocatedBytes() - before;
        CHECKS.holds("an object and 480 calls take at most 29,200,000 bytes: " + used, used <= 29_200_000);
    }

    private static void useAll(TwinThreads x) {
        for (int round = 0; round < 16; round++) {
            x.put(0x613d622a63L);
            x.put(0x3b5b615d3d62L);
            x.put(0x3b643d5b635dL);
            x.put(0x3b643d623bL);
            x.put(0x613f30L);
            x.fault();
            x.program(round & 1);
            x.wipe();
            x.put(0x613d622a63L);
            x.put(0x3b643d3139L);
            x.program(round & 1);
            x.first(round & 1, round % 12, round);
            x.set(round % 3, 1 + round % 2);
            x.exchange();
            x.ofOrder(0, 0, 0);
            x.ofThread(0, round % 11);
            x.last(0, 0);
            x.ofStep(0, 0, 3);
            x.at(round, round % 3);
            x.count(round % 10);
            x.alone(0);
            x.lengthWith(2);
            x.bestTurns();
            x.lengthWithout(0);
            x.bestExchange(0, 0);
            x.bestExchange(1, 1);
            x.save(0);
            x.restore(0);
            x.undo();
            x.drop(round & 1);
        }
    }

    private static void same(String what, Set<String> found, String[] wanted) {
        Set<String> due = new TreeSet<>(Arrays.asList(wanted));
        CHECKS.holds(what + " are " + found + ", due are " + due, found.equals(due));
    }
}
