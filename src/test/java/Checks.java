import java.util.ArrayList;
import java.util.List;

/** What the tests share: comparing answers, and writing texts on the pad. */
final class Checks {
    private static final int SHOWN = 40;

    private final String test;
    private final List<String> wrong = new ArrayList<>();
    private long made;
    private String sentence = "";

    Checks(String test) {
        this.test = test;
    }

    /** Tells which sentence of the document the checks from here on belong to. */
    void sentence(String sentence) {
        this.sentence = "'" + sentence + "': ";
    }

    void due(String call, long got, long want) {
        made++;
        if (got != want) {
            fail(call + " answered " + got + ", due is " + want);
        }
    }

    void holds(String what, boolean held) {
        made++;
        if (!held) {
            fail(what);
        }
    }

    boolean failed() {
        return !wrong.isEmpty();
    }

    void end() {
        System.out.println(test + ": " + made + " checks, " + wrong.size() + " wrong");
        if (failed()) {
            System.exit(1);
        }
    }

    private void fail(String text) {
        wrong.add(text);
        if (wrong.size() <= SHOWN) {
            System.out.println(test + ": " + sentence + text);
        }
    }

    /** The number by which put takes a text of at most 8 characters. */
    static long number(String text) {
        long number = 0;
        for (char c : text.toCharArray()) {
            number = number << 8 | c;
        }
        return number;
    }

    static void write(TwinThreads x, String text) {
        for (int from = 0; from < text.length(); from += 8) {
            x.put(number(text.substring(from, Math.min(text.length(), from + 8))));
        }
    }

    /** A new object with these programs, each as long as it is not empty. */
    static TwinThreads with(String program0, String program1) {
        TwinThreads x = new TwinThreads();
        give(x, 0, program0);
        give(x, 1, program1);
        return x;
    }

    static void give(TwinThreads x, int thread, String program) {
        if (!program.isEmpty()) {
            write(x, program);
            x.program(thread);
        }
    }
}
