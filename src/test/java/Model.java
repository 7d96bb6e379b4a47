import java.util.ArrayDeque;
import java.util.ArrayList;
import java.util.Arrays;
import java.util.Deque;
import java.util.List;
import java.util.regex.Pattern;

/** The document once more, told in another way: every step is kept in a list, and all is asked of that list. */
final class Model {
    private static final int NO_SUCH = -1, BAD_VALUE = -2, BAD_TEXT = -3, TOO_MANY = -4, NOT_POSSIBLE = -5, NONE = -6;

    private static final String ORDER = "([a-d]=((0|[1-9][0-9]?)|[a-d][-+*][a-d]|\\[[a-d]\\])|\\[[a-d]\\]=[a-d]|[a-d]\\?(0|[1-9][0-9]?))";
    private static final Pattern PROGRAM = Pattern.compile(ORDER + "(;" + ORDER + ")*");
    /** Each text that can be begun can be ended by one of these. */
    private static final String[] ENDINGS = {"", "a=1", "=1", "1", "+a", "a", "a]", "]", "a]=a", "]=a", "=a"};

    record Order(int kind, int into, int left, int right, int number) {
        boolean uses(int register) {
            return into == register || left == register || right == register;
        }

        char room() {
            return kind == 3 ? 'p' : kind == 4 || kind == 5 ? 'c' : '-';
        }

        int given() {
            return kind <= 4 ? into : NONE;
        }
    }

    record Step(int thread, int index, Order order, int start, int end) {
        boolean runs(int tick) {
            return start <= tick && tick < end;
        }
    }

    /** All that undo and the slots keep. */
    static final class Kept implements Cloneable {
        int[] settings = {0, 3, 4};
        List<List<Order>> programs = new ArrayList<>(List.of(List.of(), List.of()));
        int[][] firsts = new int[2][12];

        Kept copy() {
            Kept copy = new Kept();
            copy.settings = settings.clone();
            copy.programs = new ArrayList<>(programs);
            copy.firsts = new int[][] {firsts[0].clone(), firsts[1].clone()};
            return copy;
        }
    }

    /** A run, played tick by tick; a step's values are worked out when it starts. */
    static final class Play {
        final Kept kept;
        final String freeRooms;
        final List<Step> steps = new ArrayList<>();
        final int[][] values;
        final int[] next = new int[2];

        Play(Kept kept, String freeRooms) {
            this.kept = kept;
            this.freeRooms = freeRooms;
            values = new int[][] {kept.firsts[0].clone(), kept.firsts[1].clone()};
            int tick = 0;
            while (wants(0) || wants(1)) {
                int thread = chosen(tick);
                if (thread >= 0) {
                    begin(thread, tick);
                }
                tick++;
            }
        }

        List<Step> of(int thread) {
            return steps.stream().filter(s -> s.thread == thread).toList();
        }

        boolean inside(int thread) {
            return next[thread] < kept.programs.get(thread).size();
        }

        boolean wants(int thread) {
            return inside(thread) && of(thread).size() < 100;
        }

        /** Why the order can't start in the tick, by the steps that started ahead of it; 0 if it can. */
        int why(int thread, Order order, int tick) {
            List<Step> mine = of(thread).stream().filter(s -> s.start < tick).toList();
            for (Step step : mine) {
                if (step.runs(tick) && step.order.given() != NONE && order.uses(step.order.given())) {
                    return 1;
                }
            }
            if (!mine.isEmpty() && mine.get(mine.size() - 1).order.kind == 6 && mine.get(mine.size() - 1).runs(tick)) {
                return 1;
            }
            if (order.room() == '-' || freeRooms.indexOf(order.room()) >= 0) {
                return 0;
            }
            for (Step step : steps) {
                if (step.start < tick && step.runs(tick) && step.order.room() == order.room()) {
                    return step.thread == thread ? 2 : 3;
                }
            }
            return 0;
        }

        boolean can(int thread, int tick) {
            return wants(thread) && why(thread, kept.programs.get(thread).get(next[thread]), tick) == 0;
        }

        int latest(int thread) {
            return of(thread).stream().mapToInt(Step::start).max().orElse(-1);
        }

        int chosen(int tick) {
            int turn = tick % 2 == 0 ? 0 : 1;
            int other = tick % 2 == 0 ? 1 : 0;
            boolean one = can(turn, tick);
            boolean two = can(other, tick);
            if (kept.settings[0] == 0) {
                return one ? turn : -1;
            }
            if (one && two && kept.settings[0] == 2 && latest(other) < latest(turn)) {
                return other;
            }
            return one ? turn : two ? other : -1;
        }

        void begin(int thread, int tick) {
            int index = next[thread];
            Order o = kept.programs.get(thread).get(index);
            int ticks = o.room() == 'p' ? kept.settings[1] : o.room() == 'c' ? kept.settings[2] : 1;
            steps.add(new Step(thread, index, o, tick, tick + ticks));
            int[] v = values[thread];
            next[thread] = index + 1;
            switch (o.kind) {
                case 0 -> v[o.into] = o.number;
                case 1 -> v[o.into] = (v[o.left] + v[o.right]) % 1000;
                case 2 -> v[o.into] = v[o.left] < v[o.right] ? v[o.left] - v[o.right] + 1000 : v[o.left] - v[o.right];
                case 3 -> v[o.into] = v[o.left] * v[o.right] % 1000;
                case 4 -> v[o.into] = v[4 + v[o.left] % 8];
                case 5 -> v[4 + v[o.into] % 8] = v[o.left];
                default -> next[thread] = v[o.into] != 0 ? o.number : index + 1;
            }
        }

        int length(int thread) {
            return of(thread).stream().mapToInt(Step::end).max().orElse(0);
        }

        int length() {
            return Math.max(length(0), length(1));
        }

        int waits(int thread, int reason) {
            int waits = 0;
            int tick = 0;
            for (Step step : of(thread)) {
                for (; tick < step.start; tick++) {
                    int why = why(thread, step.order, tick);
                    waits += (why == 0 ? 4 : why) == reason ? 1 : 0;
                }
                tick++;
            }
            return waits;
        }

        int steps(int thread, char room) {
            return (int) of(thread).stream().filter(s -> s.order.room() == room).count();
        }

        int user(int tick, char room) {
            return steps.stream().filter(s -> s.order.room() == room && s.runs(tick)).mapToInt(Step::thread).findFirst().orElse(NONE);
        }
    }

    private Kept now = new Kept();
    private Play play = new Play(now, "");
    private final Kept[] slots = new Kept[2];
    private final Deque<Kept> history = new ArrayDeque<>();
    private String pad = "";

    static int faultOf(String text) {
        for (int end = 1; end <= text.length(); end++) {
            String begun = text.substring(0, end);
            if (Arrays.stream(ENDINGS).noneMatch(e -> PROGRAM.matcher(begun + e).matches())) {
                return end - 1;
            }
        }
        return PROGRAM.matcher(text).matches() ? NONE : text.length();
    }

    private static Order orderOf(String t) {
        if (t.charAt(0) == '[') {
            return new Order(5, t.charAt(1) - 'a', t.charAt(4) - 'a', NONE, NONE);
        }
        int into = t.charAt(0) - 'a';
        if (t.charAt(1) == '?') {
            return new Order(6, into, NONE, NONE, Integer.parseInt(t.substring(2)));
        }
        if (t.charAt(2) == '[') {
            return new Order(4, into, t.charAt(3) - 'a', NONE, NONE);
        }
        if (Character.isDigit(t.charAt(2))) {
            return new Order(0, into, NONE, NONE, Integer.parseInt(t.substring(2)));
        }
        return new Order(1 + "+-*".indexOf(t.charAt(3)), into, t.charAt(2) - 'a', t.charAt(4) - 'a', NONE);
    }

    private static boolean thread(int thread) {
        return thread == 0 || thread == 1;
    }

    private Kept change() {
        history.addLast(now.copy());
        if (history.size() > 6) {
            history.removeFirst();
        }
        return now;
    }

    private int answer(int answer) {
        play = new Play(now, "");
        return answer;
    }

    int set(int setting, int value) {
        if (setting < 0 || setting > 2 || value < (setting == 0 ? 0 : 1) || value > (setting == 0 ? 2 : 9)) {
            return BAD_VALUE;
        }
        int previous = now.settings[setting];
        change().settings[setting] = value;
        return answer(previous);
    }

    int put(long characters) {
        StringBuilder text = new StringBuilder();
        boolean over = false;
        for (int i = 0; i < 8; i++) {
            int code = (int) (characters >> 8 * i) & 0xff;
            if (code == 0) {
                over = true;
            } else if (over || code < 33 || code > 126) {
                return BAD_VALUE;
            } else {
                text.insert(0, (char) code);
            }
        }
        if (text.isEmpty()) {
            return BAD_VALUE;
        }
        if (pad.length() + text.length() > 80) {
            return TOO_MANY;
        }
        pad += text;
        return pad.length();
    }

    int wipe() {
        int length = pad.length();
        pad = "";
        return length;
    }

    int fault() {
        return faultOf(pad);
    }

    int program(int thread) {
        if (!thread(thread)) {
            return NO_SUCH;
        }
        if (fault() != NONE) {
            return BAD_TEXT;
        }
        List<Order> orders = Arrays.stream(pad.split(";")).map(Model::orderOf).toList();
        if (orders.size() > 12) {
            return TOO_MANY;
        }
        change().programs.set(thread, orders);
        pad = "";
        return answer(orders.size());
    }

    int drop(int thread) {
        if (!thread(thread)) {
            return NO_SUCH;
        }
        int size = now.programs.get(thread).size();
        change().programs.set(thread, List.of());
        return answer(size);
    }

    int first(int thread, int at, int value) {
        if (!thread(thread) || at < 0 || at > 11) {
            return NO_SUCH;
        }
        if (value < 0 || value > 999) {
            return BAD_VALUE;
        }
        int previous = now.firsts[thread][at];
        change().firsts[thread][at] = value;
        return answer(previous);
    }

    int exchange() {
        change();
        now.programs = new ArrayList<>(List.of(now.programs.get(1), now.programs.get(0)));
        now.firsts = new int[][] {now.firsts[1], now.firsts[0]};
        answer(0);
        return play.length();
    }

    int ofOrder(int thread, int order, int what) {
        if (!thread(thread) || order < 0 || order >= now.programs.get(thread).size()) {
            return NO_SUCH;
        }
        Order o = now.programs.get(thread).get(order);
        return switch (what) {
            case 0 -> o.kind;
            case 1 -> o.into;
            case 2 -> o.left;
            case 3 -> o.right;
            case 4 -> o.number;
            default -> BAD_VALUE;
        };
    }

    int ofThread(int thread, int what) {
        if (!thread(thread)) {
            return NO_SUCH;
        }
        return switch (what) {
            case 0 -> now.programs.get(thread).size();
            case 1 -> play.of(thread).size();
            case 2 -> play.length(thread);
            case 3 -> play.inside(thread) ? 1 : 0;
            case 4, 5, 6, 7 -> play.waits(thread, what - 3);
            case 8 -> play.of(thread).isEmpty() ? NONE : play.latest(thread);
            case 9 -> play.steps(thread, 'p');
            case 10 -> play.steps(thread, 'c');
            default -> BAD_VALUE;
        };
    }

    int last(int thread, int at) {
        return thread(thread) && at >= 0 && at <= 11 ? play.values[thread][at] : NO_SUCH;
    }

    int ofStep(int thread, int step, int what) {
        if (!thread(thread) || step < 0 || step >= play.of(thread).size()) {
            return NO_SUCH;
        }
        Step s = play.of(thread).get(step);
        return switch (what) {
            case 0 -> s.start;
            case 1 -> s.index;
            case 2 -> s.end;
            case 3 -> step == 0 ? s.start : s.start - play.of(thread).get(step - 1).start - 1;
            default -> BAD_VALUE;
        };
    }

    int at(int tick, int what) {
        if (tick < 0 || what < 0 || what > 2) {
            return BAD_VALUE;
        }
        if (what > 0) {
            return play.user(tick, what == 1 ? 'p' : 'c');
        }
        return play.steps.stream().filter(s -> s.start == tick).mapToInt(Step::thread).findFirst().orElse(NONE);
    }

    int count(int what) {
        int empty = 0;
        int products = 0;
        int cells = 0;
        for (int tick = 0; what >= 2 && what <= 4 && tick < play.length(); tick++) {
            empty += at(tick, 0) == NONE ? 1 : 0;
            products += play.user(tick, 'p') != NONE ? 1 : 0;
            cells += play.user(tick, 'c') != NONE ? 1 : 0;
        }
        return switch (what) {
            case 0 -> play.length();
            case 1 -> play.steps.size();
            case 2 -> empty;
            case 3 -> products;
            case 4 -> cells;
            case 5 -> pad.length();
            case 6 -> history.size();
            case 7, 8, 9 -> now.settings[what - 7];
            default -> BAD_VALUE;
        };
    }

    int alone(int thread) {
        if (!thread(thread)) {
            return NO_SUCH;
        }
        Kept other = now.copy();
        other.programs.set(1 - thread, List.of());
        return new Play(other, "").length(thread);
    }

    int lengthWith(int turns) {
        if (turns < 0 || turns > 2) {
            return BAD_VALUE;
        }
        Kept other = now.copy();
        other.settings[0] = turns;
        return new Play(other, "").length();
    }

    int bestTurns() {
        int[] lengths = {lengthWith(0), lengthWith(1), lengthWith(2)};
        int shortest = Arrays.stream(lengths).min().getAsInt();
        return lengths[0] == shortest ? 0 : lengths[1] == shortest ? 1 : 2;
    }

    int lengthWithout(int room) {
        return room < 0 || room > 1 ? BAD_VALUE : new Play(now.copy(), room == 0 ? "p" : "c").length();
    }

    int bestExchange(int thread, int what) {
        if (!thread(thread)) {
            return NO_SUCH;
        }
        if (what < 0 || what > 1) {
            return BAD_VALUE;
        }
        List<Order> program = now.programs.get(thread);
        int[] best = {NONE, play.length()};
        for (int one = 0; one + 1 < program.size(); one++) {
            int order = one;
            boolean barred = program.get(one).kind == 6 || program.get(one + 1).kind == 6
                || program.stream().anyMatch(o -> o.kind == 6 && (o.number == order || o.number == order + 1));
            if (barred) {
                continue;
            }
            List<Order> exchanged = new ArrayList<>(program);
            exchanged.set(one, program.get(one + 1));
            exchanged.set(one + 1, program.get(one));
            Kept other = now.copy();
            other.programs.set(thread, exchanged);
            Play run = new Play(other, "");
            if (Arrays.deepEquals(run.values, play.values) && run.length() < best[1]) {
                best = new int[] {one, run.length()};
            }
        }
        return best[0] == NONE ? NONE : best[what];
    }

    int undo() {
        if (history.isEmpty()) {
            return NOT_POSSIBLE;
        }
        now = history.removeLast();
        return answer(history.size());
    }

    int save(int slot) {
        if (slot < 0 || slot > 1) {
            return BAD_VALUE;
        }
        slots[slot] = now.copy();
        return play.length();
    }

    int restore(int slot) {
        if (slot < 0 || slot > 1) {
            return BAD_VALUE;
        }
        if (slots[slot] == null) {
            return NOT_POSSIBLE;
        }
        change();
        now = slots[slot].copy();
        answer(0);
        return play.length();
    }
}
