import java.util.Random;

/** Runs of calls, made by a fixed seed, whose answers have to be the model's. */
public final class ModelTest {
    private static final int OBJECTS = 1200;
    private static final int CALLS = 512;
    private static final Checks CHECKS = new Checks("ModelTest");

    private final Random random;
    private final TwinThreads x = new TwinThreads();
    private final Model model = new Model();
    private int calls;
    private int exchanges;

    private ModelTest(long seed) {
        random = new Random(seed);
    }

    public static void main(String[] args) {
        int exchanges = 0;
        for (int object = 0; object < OBJECTS && !CHECKS.failed(); object++) {
            ModelTest test = new ModelTest(object);
            test.play(object);
            exchanges += test.exchanges;
        }
        faults();
        longRuns();
        CHECKS.holds("the runs find orders to exchange: " + exchanges, exchanges > 100);
        CHECKS.end();
    }

    private static void faults() {
        Random random = new Random(7);
        for (int text = 0; text < 20000; text++) {
            StringBuilder pad = new StringBuilder(program(random, 6));
            for (int times = random.nextInt(3); times > 0 && pad.length() > 0; times--) {
                int at = random.nextInt(pad.length());
                if (random.nextBoolean()) {
                    pad.deleteCharAt(at);
                } else {
                    pad.insert(at, "abcde=?[]+-*;0159~!".charAt(random.nextInt(19)));
                }
            }
            pad.setLength(Math.min(pad.length(), 80));
            TwinThreads x = new TwinThreads();
            Checks.write(x, pad.toString());
            CHECKS.due("fault of " + pad, x.fault(), Model.faultOf(pad.toString()));
        }
    }

    /** 100 steps of each thread that are in one another's way as long as settings let them. */
    private static void longRuns() {
        String[] programs = {"a=a*a;b?0;c=1", "b?0", "c=[d];[d]=c;b?0", "a=a*b;c=a*a;[a]=c;b=[c];d=d*b;a?0", "a=a*a"};
        for (int pair = 0; pair < programs.length * programs.length; pair++) {
            TwinThreads x = Checks.with(programs[pair / programs.length], programs[pair % programs.length]);
            Model model = new Model();
            for (int thread = 0; thread < 2; thread++) {
                String program = programs[thread == 0 ? pair / programs.length : pair % programs.length];
                for (char c : program.toCharArray()) {
                    model.put(c);
                }
                CHECKS.due("orders", x.ofThread(thread, 0), model.program(thread));
                for (int at = 0; at < 12; at++) {
                    CHECKS.due("first", x.first(thread, at, 1 + 2 * at), model.first(thread, at, 1 + 2 * at));
                }
            }
            for (int ticks = 1; ticks <= 9; ticks++) {
                CHECKS.due("set(1)", x.set(1, ticks), model.set(1, ticks));
                CHECKS.due("set(2)", x.set(2, 10 - ticks), model.set(2, 10 - ticks));
                CHECKS.due("set(2)", x.set(2, ticks), model.set(2, ticks));
                for (int turns = 0; turns < 3; turns++) {
                    String name = "programs " + pair + ", " + ticks + " ticks, turns " + turns + ", ";
                    CHECKS.due(name + "lengthWith", x.lengthWith(turns), model.lengthWith(turns));
                }
            }
            for (int what = 0; what <= 10; what++) {
                CHECKS.due("ofThread(0, " + what + ")", x.ofThread(0, what), model.ofThread(0, what));
                CHECKS.due("ofThread(1, " + what + ")", x.ofThread(1, what), model.ofThread(1, what));
            }
        }
    }

    private void play(int object) {
        while (calls < CALLS && !CHECKS.failed()) {
            int of = random.nextInt(100);
            if (of < 12) {
                writeProgram(object);
            } else if (of < 30) {
                change(object);
            } else {
                ask(object);
            }
        }
    }

    private void due(int object, String call, int got, int want) {
        calls++;
        CHECKS.due("object " + object + ", call " + calls + ": " + call, got, want);
    }

    private void writeProgram(int object) {
        String text = program(random, random.nextInt(10) == 0 ? 16 : 12);
        if (random.nextInt(12) == 0) {
            text = text.substring(0, random.nextInt(text.length()));
        }
        int from = 0;
        while (from < text.length()) {
            int to = Math.min(text.length(), from + 1 + random.nextInt(8));
            long number = Checks.number(text.substring(from, to));
            due(object, "put " + text.substring(from, to), x.put(number), model.put(number));
            from = to;
        }
        int thread = random.nextInt(20) == 0 ? random.nextInt(5) - 2 : random.nextInt(2);
        due(object, "fault", x.fault(), model.fault());
        due(object, "program " + text, x.program(thread), model.program(thread));
        due(object, "wipe", x.wipe(), model.wipe());
    }

    private static String program(Random random, int most) {
        int orders = 1 + random.nextInt(most);
        int registers = 1 + random.nextInt(4);
        StringBuilder text = new StringBuilder();
        for (int order = 0; order < orders; order++) {
            text.append(order == 0 ? "" : ";");
            int kind = random.nextInt(8);
            char a = (char) ('a' + random.nextInt(registers));
            char b = (char) ('a' + random.nextInt(registers));
            char c = (char) ('a' + random.nextInt(4));
            if (kind == 6 && random.nextInt(3) > 0) {
                kind = 3;
            }
            switch (kind) {
                case 0 -> text.append(a).append('=').append(random.nextInt(random.nextBoolean() ? 100 : 3));
                case 1 -> text.append(a).append('=').append(b).append('+').append(c);
                case 2 -> text.append(a).append('=').append(b).append('-').append(c);
                case 4 -> text.append(a).append("=[").append(c).append(']');
                case 5 -> text.append('[').append(a).append("]=").append(c);
                case 6 -> text.append(a).append('?').append(random.nextInt(random.nextInt(4) == 0 ? 100 : orders + 1));
                default -> text.append(c).append('=').append(b).append('*').append(a);
            }
        }
        return text.length() > 80 ? text.substring(0, text.lastIndexOf(";", 80)) : text.toString();
    }

    /** Mostly a number from 0 on, sometimes one outside or far away. */
    private int upTo(int most) {
        int of = random.nextInt(40);
        if (of == 0) {
            return -1 - random.nextInt(3);
        }
        if (of == 1) {
            return most + 1 + random.nextInt(3);
        }
        if (of == 2) {
            return random.nextInt();
        }
        return random.nextInt(most + 1);
    }

    private void change(int object) {
        int a = upTo(2);
        int b = upTo(9);
        int thread = upTo(1);
        int at = upTo(11);
        int value = upTo(random.nextBoolean() ? 999 : 3);
        switch (random.nextInt(10)) {
            case 0, 1, 2 -> due(object, "set(" + a + ", " + b + ")", x.set(a, b), model.set(a, b));
            case 3, 4 -> due(object, "first(" + thread + ", " + at + ", " + value + ")",
                x.first(thread, at, value), model.first(thread, at, value));
            case 5 -> due(object, "exchange()", x.exchange(), model.exchange());
            case 6 -> due(object, "undo()", x.undo(), model.undo());
            case 7 -> due(object, "save(" + thread + ")", x.save(thread), model.save(thread));
            case 8 -> due(object, "restore(" + thread + ")", x.restore(thread), model.restore(thread));
            default -> changeSeldom(object, thread);
        }
    }

    private void changeSeldom(int object, int thread) {
        long number = random.nextLong() >>> (8 * random.nextInt(8)) & (random.nextBoolean() ? -1L : 0x7f7f7f7f7f7f7f7fL);
        switch (random.nextInt(4)) {
            case 0 -> due(object, "drop(" + thread + ")", x.drop(thread), model.drop(thread));
            case 1 -> due(object, "wipe()", x.wipe(), model.wipe());
            default -> due(object, "put(" + number + ")", x.put(number), model.put(number));
        }
    }

    private void ask(int object) {
        int thread = upTo(1);
        int length = model.count(0);
        switch (random.nextInt(13)) {
            case 0 -> askOrder(object, thread);
            case 1, 2 -> {
                int what = upTo(10);
                due(object, "ofThread(" + thread + ", " + what + ")", x.ofThread(thread, what), model.ofThread(thread, what));
            }
            case 3, 4 -> {
                int at = upTo(11);
                due(object, "last(" + thread + ", " + at + ")", x.last(thread, at), model.last(thread, at));
            }
            case 5, 6 -> askStep(object, thread);
            case 7, 8 -> {
                int tick = upTo(length);
                int what = upTo(2);
                due(object, "at(" + tick + ", " + what + ")", x.at(tick, what), model.at(tick, what));
            }
            case 9, 10 -> {
                int what = upTo(9);
                due(object, "count(" + what + ")", x.count(what), model.count(what));
            }
            default -> askWhatIf(object, thread);
        }
    }

    private void askOrder(int object, int thread) {
        int order = upTo(11);
        int what = upTo(4);
        due(object, "ofOrder(" + thread + ", " + order + ", " + what + ")",
            x.ofOrder(thread, order, what), model.ofOrder(thread, order, what));
    }

    private void askStep(int object, int thread) {
        int step = upTo(random.nextInt(4) == 0 ? 99 : 12);
        int what = upTo(3);
        due(object, "ofStep(" + thread + ", " + step + ", " + what + ")",
            x.ofStep(thread, step, what), model.ofStep(thread, step, what));
    }

    private void askWhatIf(int object, int thread) {
        int turns = upTo(2);
        int room = upTo(1);
        switch (random.nextInt(6)) {
            case 0 -> due(object, "alone(" + thread + ")", x.alone(thread), model.alone(thread));
            case 1 -> due(object, "lengthWith(" + turns + ")", x.lengthWith(turns), model.lengthWith(turns));
            case 2 -> due(object, "bestTurns()", x.bestTurns(), model.bestTurns());
            case 3 -> due(object, "lengthWithout(" + room + ")", x.lengthWithout(room), model.lengthWithout(room));
            default -> {
                int got = x.bestExchange(thread, room);
                exchanges += got >= 0 ? 1 : 0;
                due(object, "bestExchange(" + thread + ", " + room + ")", got, model.bestExchange(thread, room));
            }
        }
    }
}
