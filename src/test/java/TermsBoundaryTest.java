import java.util.LinkedHashMap;
import java.util.Map;
import java.util.function.Supplier;
import java.util.function.ToIntFunction;

/**
 * The sentences of 'Terms' that name a boundary case, each at the last value that is allowed and at the first one that
 * is not, with answers worked out by hand.
 */
public final class TermsBoundaryTest {
    private static final int NO_SUCH = -1, BAD_VALUE = -2, BAD_TEXT = -3, TOO_MANY = -4, NOT_POSSIBLE = -5, NONE = -6;
    private static final int TURNS = TwinThreads.TURNS, PRODUCT = TwinThreads.PRODUCT, CELL = TwinThreads.CELL;
    private static final int MIN = Integer.MIN_VALUE, MAX = Integer.MAX_VALUE;
    private static final int CELL_AT = 4;

    private static final String TWELVE = "a=1;a=2;a=3;a=4;a=5;a=6;a=7;a=8;a=9;a=10;a=11;a=12";
    private static final String THIRTEEN = TWELVE + ";a=13";

    private static final Checks CHECKS = new Checks("TermsBoundaryTest");

    public static void main(String[] args) {
        firstErrorThatApplies();
        errorsChangeNothing();
        questionsChangeNothing();
        noneOnlyWithoutAnError();
        numberedFromNought();
        rangesOfSettings();
        twoThreads();
        registersAndCells();
        ordersOfAProgram();
        rangeOfValues();
        firstValuesAreNought();
        lengthOfThePad();
        lettersAndNumbers();
        sums();
        differences();
        products();
        cellsLeftOverByEight();
        questions();
        faultOfANumber();
        textThatEndsTooEarly();
        firstCharacterThatCannotStand();
        beginOfARun();
        doneBehindTheLastOrder();
        doneByANumberWithoutOrder();
        stoppedAtAHundredSteps();
        stoppedThreadGivesTurnsAway();
        oneStartInATick();
        turnsByOddAndEven();
        ticksOfAStep();
        registersGetReady();
        registersThatAreReady();
        stepBehindAQuestion();
        roomsGetFree();
        roomsOfTheOther();
        strictTurns();
        lentTurns();
        turnsOfTheLongestAgo();
        lengths();
        ticksOfARun();
        waitsEndAtTheLastStart();
        registerIsTheFirstReason();
        ownRoomAheadOfTurn();
        otherRoomAheadOfTurn();
        roomsAheadOfAStart();
        CHECKS.end();
    }

    private static void due(String call, long got, long want) {
        CHECKS.due(call, got, want);
    }

    private static void sentence(String sentence) {
        CHECKS.sentence(sentence);
    }

    /** Both programs by this way to give turns, with these ticks for products and cells. */
    private static TwinThreads by(int turns, int product, int cell, String program0, String program1) {
        TwinThreads x = Checks.with(program0, program1);
        x.set(TURNS, turns);
        x.set(PRODUCT, product);
        x.set(CELL, cell);
        return x;
    }

    private static void starts(String name, TwinThreads x, int thread, int... wants) {
        due(name + ": steps of " + thread, x.ofThread(thread, 1), wants.length);
        for (int step = 0; step < wants.length; step++) {
            due(name + ": ofStep(" + thread + ", " + step + ", 0)", x.ofStep(thread, step, 0), wants[step]);
        }
    }

    private static void waits(String name, TwinThreads x, int thread, int... wants) {
        for (int reason = 1; reason <= 4; reason++) {
            due(name + ": waits of " + thread + " for the reason " + reason, x.ofThread(thread, 3 + reason), wants[reason - 1]);
        }
    }

    // ---- Conventions

    private static void firstErrorThatApplies() {
        sentence("it names its errors in the order in which they are checked, and the first one that applies is returned");
        TwinThreads full = fullPad();
        due("put, bad and too many", full.put(0x6120L), BAD_VALUE);
        due("put, nothing and too many", full.put(0), BAD_VALUE);
        due("put, too many alone", full.put('a'), TOO_MANY);
        TwinThreads empty = new TwinThreads();
        due("program, no thread and a fault", empty.program(2), NO_SUCH);
        due("program, a fault alone", empty.program(1), BAD_TEXT);
        TwinThreads many = new TwinThreads();
        Checks.write(many, THIRTEEN);
        due("program, no thread and too many", many.program(-1), NO_SUCH);
        due("program, too many alone", many.program(0), TOO_MANY);
        Checks.write(many, ";");
        due("program, a fault and too many", many.program(0), BAD_TEXT);
        TwinThreads x = Checks.with("a=1", "");
        due("first, no thread and a bad value", x.first(2, 0, 1000), NO_SUCH);
        due("first, no place and a bad value", x.first(0, 12, 1000), NO_SUCH);
        due("first, a bad value alone", x.first(0, 11, 1000), BAD_VALUE);
        due("ofOrder, no thread and a bad what", x.ofOrder(2, 0, 5), NO_SUCH);
        due("ofOrder, no order and a bad what", x.ofOrder(0, 1, 5), NO_SUCH);
        due("ofOrder, a bad what alone", x.ofOrder(0, 0, 5), BAD_VALUE);
        due("ofThread, no thread and a bad what", x.ofThread(2, 11), NO_SUCH);
        due("ofThread, a bad what alone", x.ofThread(1, 11), BAD_VALUE);
        due("ofStep, no thread and a bad what", x.ofStep(2, 0, 4), NO_SUCH);
        due("ofStep, no step and a bad what", x.ofStep(0, 1, 4), NO_SUCH);
        due("ofStep, a bad what alone", x.ofStep(0, 0, 4), BAD_VALUE);
        due("bestExchange, no thread and a bad what", x.bestExchange(2, 2), NO_SUCH);
        due("bestExchange, a bad what alone", x.bestExchange(1, 2), BAD_VALUE);
        due("restore, no slot", x.restore(2), BAD_VALUE);
        due("restore, nothing saved", x.restore(1), NOT_POSSIBLE);
    }

    private static TwinThreads fullPad() {
        TwinThreads x = new TwinThreads();
        Checks.write(x, "a=1;".repeat(20));
        return x;
    }

    /** An object with something in all that it holds but the slot 0, and with this text on the pad. */
    private static TwinThreads busy(String pad) {
        TwinThreads x = Checks.with("a=b*c;d=a+a;c=2;[c]=d", "b=[a];b?0;a=b*b");
        x.first(0, 1, 7);
        x.save(1);
        x.set(TURNS, 1);
        x.set(PRODUCT, 2);
        x.first(1, CELL_AT, 5);
        x.set(CELL, 6);
        Checks.write(x, pad);
        return x;
    }

    private static void errorsChangeNothing() {
        sentence("A call that returns an error changes nothing");
        Map<String, ToIntFunction<TwinThreads>> calls = new LinkedHashMap<>();
        calls.put("set(-1, 1)", x -> x.set(-1, 1));
        calls.put("set(3, 1)", x -> x.set(3, 1));
        calls.put("set(0, -1)", x -> x.set(TURNS, -1));
        calls.put("set(0, 3)", x -> x.set(TURNS, 3));
        calls.put("set(1, 0)", x -> x.set(PRODUCT, 0));
        calls.put("set(1, 10)", x -> x.set(PRODUCT, 10));
        calls.put("set(2, 0)", x -> x.set(CELL, 0));
        calls.put("set(2, 10)", x -> x.set(CELL, 10));
        calls.put("drop(-1)", x -> x.drop(-1));
        calls.put("drop(2)", x -> x.drop(2));
        calls.put("first(-1, 0, 1)", x -> x.first(-1, 0, 1));
        calls.put("first(2, 0, 1)", x -> x.first(2, 0, 1));
        calls.put("first(0, -1, 1)", x -> x.first(0, -1, 1));
        calls.put("first(1, 12, 1)", x -> x.first(1, 12, 1));
        calls.put("first(0, 0, -1)", x -> x.first(0, 0, -1));
        calls.put("first(1, 11, 1000)", x -> x.first(1, 11, 1000));
        calls.put("save(-1)", x -> x.save(-1));
        calls.put("save(2)", x -> x.save(2));
        calls.put("restore(-1)", x -> x.restore(-1));
        calls.put("restore(2)", x -> x.restore(2));
        calls.put("restore(0)", x -> x.restore(0));
        calls.put("put(0)", x -> x.put(0));
        calls.put("put(32)", x -> x.put(32));
        calls.put("put(127)", x -> x.put(127));
        calls.put("put, good ones behind a bad one", x -> x.put(0x206161L));
        calls.put("put, bad ones behind a good one", x -> x.put(0x612020L));
        calls.put("put, a 0 within", x -> x.put(0x610061L));
        calls.put("program(-1)", x -> x.program(-1));
        calls.put("program(2)", x -> x.program(2));
        for (String call : calls.keySet()) {
            errorChangesNothing(call, () -> busy("c=5"), calls.get(call));
        }
        errorChangesNothing("program(0) by an empty pad", () -> busy(""), x -> x.program(0));
        errorChangesNothing("program(0) by a fault", () -> busy("c=5;"), x -> x.program(0));
        errorChangesNothing("program(1) by a fault in the first order", () -> busy("c=100;d=1"), x -> x.program(1));
        errorChangesNothing("program(0) by 13 orders", () -> busy(THIRTEEN), x -> x.program(0));
        errorChangesNothing("put('a') on a full pad", TermsBoundaryTest::fullPad, x -> x.put('a'));
        errorChangesNothing("put of eight on 73", () -> busy("a=1;".repeat(18) + "b"), x -> x.put(Checks.number("=2;=2;=2")));
        errorChangesNothing("undo() without changes", TermsBoundaryTest::fullPad, TwinThreads::undo);
        errorChangesNothing("undo() with all undone", TermsBoundaryTest::undone, TwinThreads::undo);
    }

    private static TwinThreads undone() {
        TwinThreads x = busy("c=5");
        for (int times = 0; times < 6; times++) {
            x.undo();
        }
        return x;
    }

    private static void errorChangesNothing(String call, Supplier<TwinThreads> made, ToIntFunction<TwinThreads> error) {
        TwinThreads x = made.get();
        int answer = error.applyAsInt(x);
        CHECKS.holds(call + " answered " + answer + ", an error is due", answer <= NO_SUCH && answer >= NOT_POSSIBLE);
        CHECKS.holds(call + " changes nothing", Observed.all(x).equals(Observed.all(made.get())));
    }

    private static void questionsChangeNothing() {
        sentence("what if; nothing changes (and so with each question)");
        Map<String, ToIntFunction<TwinThreads>> calls = new LinkedHashMap<>();
        calls.put("fault", TwinThreads::fault);
        calls.put("ofOrder", x -> x.ofOrder(0, 3, 4));
        calls.put("ofThread", x -> x.ofThread(1, 10));
        calls.put("last", x -> x.last(1, 11));
        calls.put("ofStep", x -> x.ofStep(0, 3, 3));
        calls.put("at", x -> x.at(2, 2));
        calls.put("count", x -> x.count(9));
        calls.put("alone(0)", x -> x.alone(0));
        calls.put("alone(1)", x -> x.alone(1));
        calls.put("lengthWith(0)", x -> x.lengthWith(0));
        calls.put("lengthWith(2)", x -> x.lengthWith(2));
        calls.put("bestTurns", TwinThreads::bestTurns);
        calls.put("lengthWithout(0)", x -> x.lengthWithout(0));
        calls.put("lengthWithout(1)", x -> x.lengthWithout(1));
        calls.put("bestExchange(0, 0)", x -> x.bestExchange(0, 0));
        calls.put("bestExchange(1, 1)", x -> x.bestExchange(1, 1));
        for (String call : calls.keySet()) {
            TwinThreads x = busy("c=5;");
            calls.get(call).applyAsInt(x);
            CHECKS.holds(call + " changes nothing", Observed.all(x).equals(Observed.all(busy("c=5;"))));
        }
    }

    private static void noneOnlyWithoutAnError() {
        sentence("NONE (-6) is not an error; it is returned only if no error applies");
        TwinThreads x = Checks.with("a=1", "");
        due("ofOrder, NONE of an order", x.ofOrder(0, 0, 3), NONE);
        due("ofOrder, no such order", x.ofOrder(0, 1, 3), NO_SUCH);
        due("ofThread, NONE of a thread", x.ofThread(1, 8), NONE);
        due("ofThread, no such thread", x.ofThread(2, 8), NO_SUCH);
        due("at, NONE in a tick", x.at(1, 0), NONE);
        due("at, no such tick", x.at(-1, 0), BAD_VALUE);
        due("at, a bad what where there is none", x.at(1, 3), BAD_VALUE);
        due("bestExchange, NONE", x.bestExchange(0, 1), NONE);
        due("bestExchange, a bad what where there are none", x.bestExchange(0, 2), BAD_VALUE);
        due("bestExchange, no thread", x.bestExchange(2, 0), NO_SUCH);
        Checks.write(x, "a=1");
        due("fault, NONE of a pad", x.fault(), NONE);
    }

    private static void numberedFromNought() {
        sentence("Everything is numbered from 0");
        TwinThreads x = by(0, 3, 4, "b=1;a=2;d=3", "c=5");
        due("the order 0", x.ofOrder(0, 0, 1), 1);
        due("the order -1", x.ofOrder(0, -1, 1), NO_SUCH);
        due("the last order", x.ofOrder(0, 2, 1), 3);
        due("one behind it", x.ofOrder(0, 3, 1), NO_SUCH);
        due("the step 0", x.ofStep(0, 0, 1), 0);
        due("the step -1", x.ofStep(0, -1, 1), NO_SUCH);
        due("the last step", x.ofStep(0, 2, 1), 2);
        due("one behind it", x.ofStep(0, 3, 1), NO_SUCH);
        due("the tick 0", x.at(0, 0), 0);
        due("the tick -1", x.at(-1, 0), BAD_VALUE);
        due("the thread 1", x.at(1, 0), 1);
        due("the register 2", x.last(1, 2), 5);
    }

    // ---- Settings

    private static void rangesOfSettings() {
        String[] names = {"TURNS (0 to 2; 0)", "PRODUCT (1 to 9; 3)", "CELL (1 to 9; 4)"};
        int[] lowest = {0, 1, 1};
        int[] highest = {2, 9, 9};
        int[] firsts = {0, 3, 4};
        for (int setting = 0; setting <= 2; setting++) {
            sentence(names[setting]);
            TwinThreads x = new TwinThreads();
            due("its first value", x.count(7 + setting), firsts[setting]);
            due("one below", x.set(setting, lowest[setting] - 1), BAD_VALUE);
            due("one above", x.set(setting, highest[setting] + 1), BAD_VALUE);
            due("far below", x.set(setting, MIN), BAD_VALUE);
            due("far above", x.set(setting, MAX), BAD_VALUE);
            int value = firsts[setting];
            due("as it was", x.count(7 + setting), value);
            for (int next = lowest[setting]; next <= highest[setting]; next++) {
                due("set(" + setting + ", " + next + ")", x.set(setting, next), value);
                due("count(" + (7 + setting) + ")", x.count(7 + setting), next);
                value = next;
            }
        }
    }

    // ---- Threads and programs

    private static void twoThreads() {
        sentence("There are two threads, 0 and 1");
        Map<String, Asked> calls = new LinkedHashMap<>();
        calls.put("drop", (x, thread) -> x.drop(thread));
        calls.put("first", (x, thread) -> x.first(thread, 0, 1));
        calls.put("ofOrder", (x, thread) -> x.ofOrder(thread, 0, 0));
        calls.put("ofThread", (x, thread) -> x.ofThread(thread, 0));
        calls.put("last", (x, thread) -> x.last(thread, 1));
        calls.put("ofStep", (x, thread) -> x.ofStep(thread, 0, 0));
        calls.put("alone", (x, thread) -> x.alone(thread));
        calls.put("bestExchange", (x, thread) -> x.bestExchange(thread, 0));
        calls.put("program", (x, thread) -> x.program(thread));
        int[][] wants = {{1, 2}, {0, 0}, {0, 1}, {1, 2}, {0, 2}, {0, 1}, {1, 4}, {NONE, NONE}, {1, 1}};
        int row = 0;
        for (String call : calls.keySet()) {
            for (int thread : new int[] {MIN, -1, 0, 1, 2, MAX}) {
                TwinThreads x = Checks.with("a=5", "b=a+a;b=2");
                Checks.write(x, "c=7");
                boolean is = thread == 0 || thread == 1;
                due(call + " of " + thread, calls.get(call).of(x, thread), is ? wants[row][thread] : NO_SUCH);
            }
            row++;
        }
    }

    private interface Asked {
        int of(TwinThreads x, int thread);
    }

    private static void registersAndCells() {
        sentence("Each has 4 registers, a to d, 8 cells, 0 to 7");
        TwinThreads x = new TwinThreads();
        for (int at : new int[] {MIN, -1, 12, MAX}) {
            due("last at " + at, x.last(0, at), NO_SUCH);
            due("first at " + at, x.first(1, at, 1), NO_SUCH);
        }
        for (int at = 0; at < 12; at++) {
            due("first at " + at, x.first(0, at, 100 + at), 0);
            due("first of the other at " + at, x.first(1, at, 200 + at), 0);
        }
        Checks.give(x, 0, "a=d+d");
        due("d is the last register", x.last(0, 0), 206);
        for (int at = 1; at < 12; at++) {
            due("last at " + at, x.last(0, at), 100 + at);
            due("last of the other at " + at, x.last(1, at), 200 + at);
        }
        Checks.give(x, 0, "a=7;b=[a];c=0;d=[c]");
        due("the cell 7", x.last(0, 1), 111);
        due("the cell 0", x.last(0, 3), 104);
    }

    private static void ordersOfAProgram() {
        sentence("a program of at most 12 orders (none at first)");
        TwinThreads x = new TwinThreads();
        due("none at first", x.ofThread(0, 0), 0);
        due("no order 0 at first", x.ofOrder(1, 0, 0), NO_SUCH);
        Checks.write(x, "a=1");
        due("one order", x.program(0), 1);
        Checks.write(x, TWELVE);
        due("twelve orders", x.program(0), 12);
        due("the order 11", x.ofOrder(0, 11, 4), 12);
        due("the order 12", x.ofOrder(0, 12, 4), NO_SUCH);
        due("all are done", x.last(0, 0), 12);
        Checks.write(x, THIRTEEN);
        due("thirteen orders", x.program(1), TOO_MANY);
        due("thread 1 has none", x.ofThread(1, 0), 0);
        x.wipe();
        Checks.write(x, "a=1;".repeat(19) + "a=99");
        due("twenty orders", x.program(1), TOO_MANY);
    }

    private static void rangeOfValues() {
        sentence("All values are 0 to 999");
        TwinThreads x = new TwinThreads();
        for (int at : new int[] {0, 3, 4, 11}) {
            due("999 at " + at, x.first(0, at, 999), 0);
            due("1000 at " + at, x.first(0, at, 1000), BAD_VALUE);
            due("-1 at " + at, x.first(0, at, -1), BAD_VALUE);
            due("MAX at " + at, x.first(0, at, MAX), BAD_VALUE);
            due("MIN at " + at, x.first(0, at, MIN), BAD_VALUE);
            due("last at " + at, x.last(0, at), 999);
            due("0 at " + at, x.first(0, at, 0), 999);
            due("last at " + at, x.last(0, at), 0);
        }
    }

    private static void firstValuesAreNought() {
        sentence("registers and cells have first values, 0 if nothing else was told");
        for (int at = 0; at < 12; at++) {
            TwinThreads x = new TwinThreads();
            due("last at " + at, x.last(1, at), 0);
            due("first at " + at, x.first(1, at, 1), 0);
            due("last at " + at, x.last(1, at), 1);
            due("of the other", x.last(0, at), 0);
        }
    }

    private static void lengthOfThePad() {
        sentence("the pad, a text of at most 80 characters");
        TwinThreads x = new TwinThreads();
        Checks.write(x, "a=b*c;".repeat(12) + "a=b*c;d");
        due("79 characters", x.count(5), 79);
        due("two more", x.put(Checks.number("=1")), TOO_MANY);
        due("one more", x.put('='), 80);
        due("one more still", x.put('1'), TOO_MANY);
        due("80 characters", x.count(5), 80);
        due("its fault is behind the last one", x.fault(), 80);
        due("wiped", x.wipe(), 80);
        Checks.write(x, "[a]=b;".repeat(11) + "[a]=b;a=[c];b");
        due("79 characters", x.count(5), 79);
        due("one more", x.put('c'), 80);
        due("its fault is the last one", x.fault(), 79);
        x.wipe();
        Checks.write(x, "c=10;".repeat(10) + "a=b+c;".repeat(5));
        due("80 characters", x.count(5), 80);
        due("each of them is read", x.fault(), 80);
        x.wipe();
        Checks.write(x, "a=b+c;".repeat(12) + "[a]=b;c=");
        due("the character 81", x.put('7'), TOO_MANY);
        due("80 are kept", x.fault(), 80);
        x.wipe();
        Checks.write(x, "c=10;".repeat(10) + "a=b+c;".repeat(4) + "a=b+c");
        due("79 characters without a fault", x.fault(), NONE);
        due("one more is the fault", x.put(';') == 80 ? x.fault() : MIN, 80);
    }

    private static void fault(String text, int want) {
        TwinThreads x = new TwinThreads();
        Checks.write(x, text);
        due("fault of \"" + text + "\"", x.fault(), want);
        int answer = x.program(0);
        CHECKS.holds("program of \"" + text + "\" answered " + answer, want == NONE ? answer > 0 : answer == BAD_TEXT);
    }

    private static void lettersAndNumbers() {
        sentence("A register is a letter from a to d");
        String[] places = {"_=1", "_?1", "_=b+c", "a=_+c", "a=b+_", "a=b-_", "a=b*_", "a=[_]", "[_]=b", "[a]=_"};
        for (String place : places) {
            for (char letter = 'a'; letter <= 'd'; letter++) {
                fault(place.replace('_', letter), NONE);
            }
            for (char letter : new char[] {'`', 'e', 'A', 'D', '!', '~'}) {
                fault(place.replace('_', letter), place.indexOf('_'));
                fault("d=1;" + place.replace('_', letter), 4 + place.indexOf('_'));
            }
        }
        sentence("a number is 0 to 99, without leading zeros");
        for (String begin : new String[] {"a=", "a?"}) {
            for (int number = 0; number <= 99; number++) {
                fault(begin + number, NONE);
                TwinThreads x = Checks.with(begin + number, "");
                due("number of " + begin + number, x.ofOrder(0, 0, 4), number);
            }
            for (int digit = 0; digit <= 9; digit++) {
                fault(begin + "0" + digit, 3);
                fault(begin + "0" + digit + ";b=1", 3);
            }
            // The neighbours of the digits among the characters.
            for (char other : new char[] {'/', ':'}) {
                fault(begin + other, 2);
                fault(begin + "1" + other, 3);
                fault(begin + "12" + other, 4);
            }
        }
    }

    /** What the register a is behind one order, by these first values of b and c. */
    private static int valueOf(String order, int b, int c) {
        TwinThreads x = Checks.with(order, "");
        x.first(0, 1, b);
        x.first(0, 2, c);
        return x.last(0, 0);
    }

    private static void sums() {
        sentence("a sum of two registers, left over by 1000");
        due("0 + 0", valueOf("a=b+c", 0, 0), 0);
        due("998 + 1", valueOf("a=b+c", 998, 1), 999);
        due("999 + 1", valueOf("a=b+c", 999, 1), 0);
        due("1 + 999", valueOf("a=b+c", 1, 999), 0);
        due("999 + 2", valueOf("a=b+c", 999, 2), 1);
        due("999 + 999", valueOf("a=b+c", 999, 999), 998);
        due("500 + 500 of one register", valueOf("a=b+b", 500, 3), 0);
    }

    private static void differences() {
        sentence("a difference below 0 is 1000 more");
        due("5 - 5", valueOf("a=b-c", 5, 5), 0);
        due("5 - 4", valueOf("a=b-c", 5, 4), 1);
        due("4 - 5", valueOf("a=b-c", 4, 5), 999);
        due("0 - 1", valueOf("a=b-c", 0, 1), 999);
        due("0 - 999", valueOf("a=b-c", 0, 999), 1);
        due("999 - 0", valueOf("a=b-c", 999, 0), 999);
        due("999 - 999", valueOf("a=b-c", 999, 999), 0);
        due("7 - 7 of one register", valueOf("a=b-b", 7, 3), 0);
    }

    private static void products() {
        sentence("a product of two registers, left over by 1000");
        due("27 * 37", valueOf("a=b*c", 27, 37), 999);
        due("25 * 40", valueOf("a=b*c", 25, 40), 0);
        due("7 * 143", valueOf("a=b*c", 7, 143), 1);
        due("999 * 999", valueOf("a=b*c", 999, 999), 1);
        due("999 * 998", valueOf("a=b*c", 999, 998), 2);
        due("0 * 999", valueOf("a=b*c", 0, 999), 0);
        due("32 * 32 of one register", valueOf("a=b*b", 32, 3), 24);
    }

    private static void cellsLeftOverByEight() {
        sentence("\"[x]\" is the cell whose number is the value of the register x, left over by 8");
        for (int value : new int[] {0, 1, 6, 7, 8, 9, 15, 16, 991, 992, 998, 999}) {
            TwinThreads x = Checks.with("a=[b];[b]=c", "");
            for (int cell = 0; cell < 8; cell++) {
                x.first(0, CELL_AT + cell, 500 + cell);
            }
            x.first(0, 1, value);
            x.first(0, 2, 77);
            due("read by " + value, x.last(0, 0), 500 + value % 8);
            for (int cell = 0; cell < 8; cell++) {
                due("cell " + cell + " written by " + value, x.last(0, CELL_AT + cell), cell == value % 8 ? 77 : 500 + cell);
            }
        }
        TwinThreads same = Checks.with("[b]=b;b=[b]", "");
        same.first(0, 1, 15);
        due("a cell gets the register that tells it", same.last(0, CELL_AT + 7), 15);
        due("a register that tells the cell gets it", same.last(0, 1), 15);
    }

    private static void questions() {
        sentence("\"x?n\" goes to the order n if the value of x is not 0, otherwise to the next order");
        int[][] told = {{0, 1}, {1, 2}, {999, 2}};
        for (int[] row : told) {
            TwinThreads x = Checks.with("b?2;a=5;c=6", "");
            x.first(0, 1, row[0]);
            due("next by " + row[0], x.ofStep(0, 1, 1), row[1]);
            due("a by " + row[0], x.last(0, 0), row[0] == 0 ? 5 : 0);
            due("c by " + row[0], x.last(0, 2), 6);
        }
        TwinThreads next = Checks.with("b?1;a=5", "");
        next.first(0, 1, 1);
        due("to the next order all the same", next.last(0, 0), 5);
        TwinThreads back = Checks.with("a=a+c;b=b-c;b?0", "");
        back.first(0, 1, 3);
        back.first(0, 2, 1);
        due("back to the order 0", back.last(0, 0), 3);
        TwinThreads left = Checks.with("b=b+b;b?3;a=5;c=6", "");
        left.first(0, 1, 500);
        due("1000 is 0", left.last(0, 0), 5);
    }

    private static void faultOfANumber() {
        sentence("also of a digit by which a number would be above 99");
        for (String begin : new String[] {"a=", "d?"}) {
            fault(begin + "99", NONE);
            fault(begin + "100", 4);
            fault(begin + "990", 4);
            fault(begin + "999", 4);
            fault(begin + "100;a=1", 4);
            fault(begin + "1000", 4);
            fault("b=1;" + begin + "100", 8);
            fault(begin + "99;" + begin + "100", 9);
            fault(begin + "10;" + begin + "9", NONE);
        }
    }

    private static void textThatEndsTooEarly() {
        sentence("if there is none and the text ends too early (also if it is empty), it is the length of the text");
        fault("", 0);
        String[] whole = {"a=7", "a=77", "b=c+d", "b=c-d", "b=c*d", "c=[d]", "[d]=a", "a?7", "a?77"};
        for (String order : whole) {
            int least = order.endsWith("77") ? order.length() - 1 : order.length();
            for (int length = 1; length < least; length++) {
                fault(order.substring(0, length), length);
                fault("a=1;" + order.substring(0, length), 4 + length);
            }
            fault(order, NONE);
            fault(order + ";", order.length() + 1);
            fault(order + ";" + order, NONE);
        }
        TwinThreads x = new TwinThreads();
        due("fault of a pad that was never used", x.fault(), 0);
        Checks.write(x, "a=1");
        x.program(0);
        due("fault of a pad that a program emptied", x.fault(), 0);
        Checks.write(x, "a=1");
        x.wipe();
        due("fault of a pad that was wiped", x.fault(), 0);
    }

    private static void firstCharacterThatCannotStand() {
        sentence("The fault is the index of the first character that cannot stand at its place");
        for (String text : new String[] {";", "1", "=", "?", "]", "+", "!", "~", "e"}) {
            fault(text, 0);
            fault(text + ";a=1", 0);
            fault("a=1;" + text, 4);
        }
        fault("aa", 1);
        fault("a]", 1);
        fault("a=1;;", 4);
        fault("a=1,", 3);
        fault("a=1b", 3);
        fault("a=12+", 4);
        fault("a=b", 3);
        fault("a=b;", 3);
        fault("a=b/c", 3);
        fault("a=b+1", 4);
        fault("a=b+c+d", 5);
        fault("a=[1]", 3);
        fault("a=[b]c", 5);
        fault("[1]=a", 1);
        fault("[a]=1", 4);
        fault("[a]=[b]", 4);
        fault("[a]?1", 3);
        fault("[a]=bc", 5);
        fault("a?b", 2);
        fault("a?1?", 3);
        fault("a=1;b=2;x=3;y=4", 8);
        TwinThreads x = new TwinThreads();
        Checks.write(x, "b=1;".repeat(19) + "b=1]");
        due("the last one of eighty", x.fault(), 79);
        TwinThreads y = new TwinThreads();
        Checks.write(y, "z" + "b=1;".repeat(19) + "b=1");
        due("the first one of eighty", y.fault(), 0);
    }

    // ---- Running

    private static void beginOfARun() {
        sentence("A run begins with the tick 0, and with the first values");
        TwinThreads x = Checks.with("a=a+b", "a=a+b");
        x.first(0, 0, 10);
        x.first(0, 1, 3);
        due("the first step of the thread 0", x.ofStep(0, 0, 0), 0);
        due("the first step of the thread 1", x.ofStep(1, 0, 0), 1);
        due("the value of the thread 0", x.last(0, 0), 13);
        due("asked again", x.last(0, 0), 13);
        x.first(0, 1, 4);
        due("each run begins anew", x.last(0, 0), 14);
        due("the value of the thread 1", x.last(1, 0), 0);
    }

    private static void doneBehindTheLastOrder() {
        sentence("A thread is done when there is no order for its next step (behind the last one)");
        TwinThreads none = new TwinThreads();
        due("no order, no step", none.ofThread(0, 1), 0);
        due("not STOPPED", none.ofThread(0, 3), 0);
        TwinThreads one = Checks.with("a=1", "");
        due("one order, one step", one.ofThread(0, 1), 1);
        due("not STOPPED", one.ofThread(0, 3), 0);
        TwinThreads all = Checks.with("", TWELVE);
        due("twelve orders, twelve steps", all.ofThread(1, 1), 12);
        due("the last one", all.ofStep(1, 11, 1), 11);
        due("not STOPPED", all.ofThread(1, 3), 0);
        TwinThreads asks = Checks.with("a=1;b?0", "");
        due("a ? that is the last one leads on", asks.ofThread(0, 1), 2);
        due("not STOPPED", asks.ofThread(0, 3), 0);
    }

    private static void doneByANumberWithoutOrder() {
        sentence("A thread is done when there is no order for its next step (a number to which no order belongs)");
        int[][] told = {{0, 100, 1}, {1, 100, 1}, {2, 3, 0}, {3, 2, 0}, {4, 2, 0}, {12, 2, 0}, {99, 2, 0}};
        for (int[] row : told) {
            // The step 2 is the last one by 2, as c is given there and none asks behind it.
            TwinThreads x = Checks.with("b=1;b?" + row[0] + ";c=5", "");
            due("steps by ?" + row[0], x.ofThread(0, 1), row[1]);
            due("STOPPED by ?" + row[0], x.ofThread(0, 3), row[2]);
            due("c by ?" + row[0], x.last(0, 2), row[0] == 2 ? 5 : 0);
        }
        String eleven = "b=1;a=2;a=3;a=4;a=5;a=6;a=7;a=8;a=9;a=10";
        TwinThreads last = Checks.with(eleven + ";b?11;d=9", "");
        due("to the order 11 of twelve", last.last(0, 3), 9);
        TwinThreads behind = Checks.with(eleven + ";b?12;d=9", "");
        due("to an order 12 of twelve", behind.last(0, 3), 0);
        due("done there", behind.ofThread(0, 3), 0);
        due("steps", behind.ofThread(0, 1), 11);
    }

    private static void stoppedAtAHundredSteps() {
        sentence("STOPPED when it has started 100 steps and would start one more");
        // "a=a-b;a?0" by b = 1: two steps a round; "c=1" behind it is one more step.
        for (int thread = 0; thread < 2; thread++) {
            stops(thread, "a=a-b;a?0", 49, 98, 0, 0);
            stops(thread, "a=a-b;a?0;c=1", 49, 99, 0, 0);
            stops(thread, "a=a-b;a?0", 50, 100, 0, 0);
            stops(thread, "a=a-b;a?0;c=1", 50, 100, 1, 0);
            stops(thread, "a=a-b;a?0", 51, 100, 1, 1);
            stops(thread, "c=1;a=a-b;a?1", 50, 100, 1, 0);
            stops(thread, "c=1;a=a-b;a?1", 49, 99, 0, 0);
            stops(thread, "a=a-b;a?0", 999, 100, 1, 949);
        }
        TwinThreads x = Checks.with("a=a-b;a?0;c=1", "");
        x.first(0, 0, 50);
        x.first(0, 1, 1);
        due("the step that it would start is not done", x.last(0, 2), 0);
        due("the step 99", x.ofStep(0, 99, 0), 198);
        due("the step 100", x.ofStep(0, 100, 0), NO_SUCH);
        due("the length", x.count(0), 199);
        due("no tick behind it", x.at(200, 0), NONE);
        TwinThreads led = Checks.with("b=1;b?1", "");
        due("led to itself", led.ofThread(0, 1), 100);
        due("STOPPED", led.ofThread(0, 3), 1);
        due("nothing is counted for the other one", led.ofThread(1, 3), 0);
    }

    private static void stops(int thread, String program, int a, int steps, int stopped, int left) {
        TwinThreads x = new TwinThreads();
        Checks.give(x, thread, program);
        x.first(thread, 0, a);
        x.first(thread, 1, 1);
        String name = program + " by " + a + " in the thread " + thread;
        due(name + ": steps", x.ofThread(thread, 1), steps);
        due(name + ": STOPPED", x.ofThread(thread, 3), stopped);
        due(name + ": a", x.last(thread, 0), left);
        due(name + ": last start", x.ofThread(thread, 8), 2 * (steps - 1) + thread);
    }

    private static void stoppedThreadGivesTurnsAway() {
        sentence("A step of a thread can start in a tick if: the thread is neither done nor STOPPED");
        for (int turns = 1; turns <= 2; turns++) {
            TwinThreads done = by(turns, 3, 4, "a=1", "a=1;b=1;c=1");
            starts("done, turns " + turns, done, 1, 1, 2, 3);
            // Both start every other tick until the thread 0 is STOPPED behind the tick 198.
            TwinThreads x = by(turns, 3, 4, "a=1;a?0", "b=50;c=1;b=b-c;b?2");
            starts("the last one of the thread 1 by turns " + turns, x, 0, evenTicks(100));
            due("STOPPED", x.ofThread(0, 3), 1);
            due("the step 98 of the thread 1", x.ofStep(1, 98, 0), 197);
            due("the step 99 of the thread 1", x.ofStep(1, 99, 0), 199);
        }
        TwinThreads one = by(1, 3, 9, "b=1;b?0", "a=[b];a=[a];a=[a];a=[a];a=[a];a=[a];a=[a];a=[a];a=[a];a=[a];a=[a];a=[a]");
        due("STOPPED", one.ofThread(0, 3), 1);
        due("the other goes on behind it", one.ofThread(1, 2), one.ofThread(1, 8) + 9);
        due("with all its steps", one.ofThread(1, 1), 12);
    }

    private static int[] evenTicks(int many) {
        int[] ticks = new int[many];
        for (int step = 0; step < many; step++) {
            ticks[step] = 2 * step;
        }
        return ticks;
    }

    private static void oneStartInATick() {
        sentence("In each tick at most one step starts");
        for (int turns = 0; turns <= 2; turns++) {
            TwinThreads x = by(turns, 3, 4, "a=1;b=1;c=1", "a=1;b=1;c=1");
            starts("thread 0 by turns " + turns, x, 0, 0, 2, 4);
            starts("thread 1 by turns " + turns, x, 1, 1, 3, 5);
            due("length by turns " + turns, x.count(0), 6);
            due("ticks without a start by turns " + turns, x.count(2), 0);
        }
    }

    private static void turnsByOddAndEven() {
        sentence("The turn of an even tick is the thread 0's, that of an odd tick the thread 1's");
        starts("thread 0 alone", Checks.with("a=1;b=1;c=1", ""), 0, 0, 2, 4);
        starts("thread 1 alone", Checks.with("", "a=1;b=1;c=1"), 1, 1, 3, 5);
        // By TURNS 1 the thread 0 has no order in the even tick 2, and the thread 1 none in the odd tick 3.
        starts("thread 1, turns given away", by(1, 3, 4, "a=b*c;a=1", "b=1;c=1;d=1"), 1, 1, 2, 3);
    }

    private static void ticksOfAStep() {
        sentence("A step takes PRODUCT ticks if it is a product, CELL ticks if it has a cell, otherwise 1 tick");
        String[] orders = {"a=7", "a=b+c", "a=b-c", "a=b*c", "a=[b]", "[a]=b", "a?7"};
        for (int kind = 0; kind < orders.length; kind++) {
            for (int ticks = 1; ticks <= 9; ticks++) {
                TwinThreads x = by(0, ticks, 10 - ticks, orders[kind], orders[kind]);
                int takes = kind == 3 ? ticks : kind == 4 || kind == 5 ? 10 - ticks : 1;
                String name = orders[kind] + " by " + ticks;
                due(name + ": its end", x.ofStep(0, 0, 2), takes);
                due(name + ": its length", x.ofThread(0, 2), takes);
                due(name + ": its end in the thread 1", x.ofStep(1, 0, 2) - x.ofStep(1, 0, 0), takes);
            }
        }
    }

    private static void registersGetReady() {
        sentence("The register to which it gives a value is ready from that tick on");
        String[] waiting = {"a=7", "a=c+d", "d=a+c", "d=c+a", "d=a-c", "d=c-a", "d=a*c", "d=c*a", "d=a+a",
            "d=[a]", "a=[d]", "[a]=d", "[d]=a", "a?2", "a=[a]", "[a]=a"};
        for (int ticks = 1; ticks <= 9; ticks++) {
            for (String order : waiting) {
                if (order.indexOf('*') < 0) {
                    TwinThreads x = by(1, ticks, 10 - ticks, "a=b*c;" + order, "");
                    starts("a=b*c;" + order + " by PRODUCT " + ticks, x, 0, 0, ticks);
                }
                if (order.indexOf('[') < 0) {
                    TwinThreads y = by(2, 10 - ticks, ticks, "a=[b];" + order, "");
                    starts("a=[b];" + order + " by CELL " + ticks, y, 0, 0, ticks);
                }
            }
        }
        // By turns alone the first tick from which it is ready may be the other one's.
        starts("ready in an odd tick", by(0, 3, 4, "a=b*c;d=a+a", ""), 0, 0, 4);
        starts("ready in an even tick", by(0, 4, 4, "a=b*c;d=a+a", ""), 0, 0, 4);
        starts("ready by a step of 1 tick", by(1, 9, 9, "a=1;b=a+a;c=b+b;b=3;b?9", ""), 0, 0, 1, 2, 3, 4);
        // The register that is ready latest counts: a at 9, d at 1 + 4.
        starts("two registers", by(1, 9, 4, "a=b*c;d=[b];c=a+d", ""), 0, 0, 1, 9);
        starts("the other one of two", by(1, 2, 9, "a=b*c;d=[b];c=a+d", ""), 0, 0, 1, 10);
    }

    private static void registersThatAreReady() {
        sentence("each register that it reads or gives a value is ready");
        String[] free = {"d=7", "b=7", "d=b+c", "c=d-b", "b?9", "c=b+b"};
        for (String order : free) {
            starts("a=b*c;" + order, by(1, 9, 9, "a=b*c;" + order, ""), 0, 0, 1);
            starts("a=[b];" + order, by(1, 9, 9, "a=[b];" + order, ""), 0, 0, 1);
        }
        starts("a cell that gets a value is no register", by(1, 9, 9, "[a]=b;a=b+a;b=7", ""), 0, 0, 1, 2);
        starts("a register that was asked", by(1, 9, 9, "a?5;a=1", ""), 0, 0, 1);
        starts("the other one's registers are its own", by(1, 9, 9, "a=b*c;d=1", "a=7;d=a+a"), 1, 1, 3);
    }

    private static void stepBehindAQuestion() {
        sentence("the step ahead of it, if that was a \"?\", has ended");
        for (int turns = 1; turns <= 2; turns++) {
            starts("not led", by(turns, 9, 9, "a?2;b=1;c=1", ""), 0, 0, 1, 2);
            starts("led", by(turns, 9, 9, "a=1;a?3;b=1;c=1", ""), 0, 0, 1, 2);
            starts("two of them", by(turns, 9, 9, "a?9;b?9;c=1", ""), 0, 0, 1, 2);
            waits("a ? ends in time", by(turns, 9, 9, "a=1;a?3;b=1;c=1", ""), 0, 0, 0, 0, 0);
        }
    }

    private static void roomsGetFree() {
        sentence("its room is free again from that tick on");
        String[] cells = {"a=[b];d=[b]", "a=[b];[c]=d", "[a]=b;c=[d]", "[a]=b;[c]=d", "[a]=b;[a]=b"};
        for (int ticks = 1; ticks <= 9; ticks++) {
            TwinThreads x = by(1, ticks, 10 - ticks, "a=b*c;d=b*c", "");
            starts("products by " + ticks, x, 0, 0, ticks);
            waits("products by " + ticks, x, 0, 0, ticks - 1, 0, 0);
            for (String program : cells) {
                TwinThreads y = by(2, 10 - ticks, ticks, program, "");
                starts(program + " by " + ticks, y, 0, 0, ticks);
                waits(program + " by " + ticks, y, 0, 0, ticks - 1, 0, 0);
            }
        }
        starts("one step in each room", by(1, 9, 9, "a=b*c;d=[b];c=1", ""), 0, 0, 1, 2);
        starts("one step in each room, cells first", by(1, 9, 9, "d=[b];a=b*c;b=1", ""), 0, 0, 1, 2);
    }

    private static void roomsOfTheOther() {
        sentence("a room for products and a room for cells that both use");
        for (int ticks = 1; ticks <= 9; ticks++) {
            TwinThreads x = by(1, ticks, 10 - ticks, "a=b*c", "a=b*c");
            starts("product of the other by " + ticks, x, 1, ticks);
            waits("product of the other by " + ticks, x, 1, 0, 0, ticks - 1, 1);
            TwinThreads y = by(1, 10 - ticks, ticks, "[a]=b", "c=[d]");
            starts("cell of the other by " + ticks, y, 1, ticks);
            waits("cell of the other by " + ticks, y, 1, 0, 0, ticks - 1, 1);
            // With its turn alone the thread 1 starts in the first odd tick from which the room is free.
            starts("by turns alone", by(0, ticks, 1, "a=b*c", "a=b*c"), 1, ticks + 1 - ticks % 2);
        }
        starts("another room", by(0, 9, 9, "a=b*c", "[a]=b;a=1"), 1, 1, 3);
        starts("no room", by(0, 9, 9, "a=b*c", "b=c+d;b?0"), 1, 1, 3);
    }

    private static void strictTurns() {
        sentence("By TURNS 0, the thread whose turn it is starts its step if it can; the other one never does");
        TwinThreads x = by(0, 3, 4, "a=b*c;d=a+a;b=1", "a=1;b=1;c=1;d=1");
        starts("thread 0", x, 0, 0, 4, 6);
        starts("thread 1", x, 1, 1, 3, 5, 7);
        due("nothing starts in the tick 2", x.at(2, 0), NONE);
        starts("the other one has no program", by(0, 3, 4, "a=1;b=1", ""), 0, 0, 2);
    }

    private static void lentTurns() {
        sentence("By TURNS 1, if the thread whose turn it is cannot, the other one starts its step if it can");
        TwinThreads x = by(1, 3, 4, "a=b*c;d=a+a;b=1", "a=1;b=1;c=1;d=1");
        // 0: thread 0; 1: thread 1; 2: lent to 1; 3: thread 1's own; 4: thread 0's own; 5: thread 1; 6: thread 0.
        starts("thread 0", x, 0, 0, 4, 6);
        starts("thread 1", x, 1, 1, 2, 3, 5);
        TwinThreads y = by(1, 3, 4, "a=b*c;b=a+a", "a=b*c;b=a+a");
        // 0: product of 0 to 3; 3: product of 1 to 6; 4: sum of 0; 6: sum of 1, lent; none can in 1, 2 and 5.
        starts("thread 0", y, 0, 0, 4);
        starts("thread 1", y, 1, 3, 6);
        due("none can in 1", y.at(1, 0), NONE);
        due("none can in 5", y.at(5, 0), NONE);
    }

    private static void turnsOfTheLongestAgo() {
        sentence("By TURNS 2, if one thread alone can, it starts its step");
        starts("thread 0 alone", by(2, 3, 4, "a=1;b=1;c=1", ""), 0, 0, 1, 2);
        starts("thread 1 alone", by(2, 3, 4, "", "a=1;b=1;c=1"), 1, 0, 1, 2);
        sentence("if both can, the one starts whose latest start is the longest ago");
        TwinThreads x = by(2, 3, 4, "a=1;b=1;c=1;d=1", "a=b*c;d=a+a;b=1");
        // 0: thread 0; 1: thread 1 to 4; 2, 3: thread 0; 4: both can, 1 started longer ago; 5: both can, 0 did (3).
        starts("thread 0", x, 0, 0, 2, 3, 5);
        starts("thread 1", x, 1, 1, 4, 6);
        sentence("a thread that has started none comes ahead of one that has");
        TwinThreads y = by(2, 4, 4, "a=b*c;d=1;d=2;d=3;d=4", "a=b*c;b=1");
        starts("thread 0", y, 0, 0, 1, 2, 3, 5);
        starts("thread 1, which has started none up to 4", y, 1, 4, 6);
        TwinThreads own = by(2, 3, 4, "c=b*b;d=1;d=2;d=3", "a=1");
        starts("in the tick 1, of whichever turn", own, 1, 1);
        TwinThreads other = by(2, 2, 4, "c=b*b;d=1;d=2", "a=b*c");
        starts("in the thread 0's tick 2", other, 1, 2);
        starts("the thread 0 behind it", other, 0, 0, 1, 3);
        sentence("alike, the one whose turn it is");
        TwinThreads alike = by(2, 3, 4, "a=1", "a=1");
        starts("thread 0", alike, 0, 0);
        starts("thread 1", alike, 1, 1);
    }

    private static void lengths() {
        sentence("The length of a thread is the first tick in which all its steps have ended (0 if it has none)");
        due("no step", new TwinThreads().ofThread(1, 2), 0);
        due("one step", by(0, 9, 9, "a=1", "").ofThread(0, 2), 1);
        due("one step of the thread 1", by(0, 9, 9, "", "a=1").ofThread(1, 2), 2);
        due("the last step ends last", by(0, 3, 9, "a=b*c;d=[b]", "").ofThread(0, 2), 11);
        due("the first step ends last", by(0, 9, 9, "a=b*c;d=1", "").ofThread(0, 2), 9);
        due("a step within ends last", by(1, 2, 9, "a=b*c;d=[b];c=1;b=2", "").ofThread(0, 2), 10);
        due("alike", by(1, 2, 9, "a=b*c;d=1", "").ofThread(0, 2), 2);
        sentence("the length of the run is the greater one of both");
        due("that of the thread 0", by(0, 9, 9, "a=b*c", "a=1").count(0), 9);
        due("that of the thread 1", by(0, 9, 9, "a=1", "a=b*c").count(0), 10);
        due("alike", by(0, 2, 9, "a=b*c", "a=1").count(0), 2);
        due("none", new TwinThreads().count(0), 0);
    }

    private static void ticksOfARun() {
        sentence("The ticks of the run are those ahead of its length");
        TwinThreads x = by(0, 9, 9, "a=b*c;d=1", "a=[b]");
        due("the length", x.count(0), 10);
        due("the product in the tick 8", x.at(8, 1), 0);
        due("the product in the tick 9", x.at(9, 1), NONE);
        due("the cell in the tick 0", x.at(0, 2), NONE);
        due("the cell in the tick 1", x.at(1, 2), 1);
        due("the cell in the tick 9", x.at(9, 2), 1);
        due("the cell in the tick 10", x.at(10, 2), NONE);
        due("ticks in which none starts", x.count(2), 7);
        due("ticks with a product", x.count(3), 9);
        due("ticks with a cell", x.count(4), 9);
        TwinThreads none = new TwinThreads();
        for (int what = 0; what < 3; what++) {
            due("a run without a tick, what " + what, none.at(0, what), NONE);
        }
    }

    private static void waitsEndAtTheLastStart() {
        sentence("Ticks behind its last start are no waits");
        waits("no step", new TwinThreads(), 0, 0, 0, 0, 0);
        waits("one step in the tick 0", by(0, 9, 9, "a=b*c", ""), 0, 0, 0, 0, 0);
        waits("one step in the tick 1", by(0, 9, 9, "", "a=b*c"), 1, 0, 0, 0, 1);
        waits("the last start in the tick 2", by(0, 9, 9, "a=b*c;d=1", ""), 0, 0, 0, 0, 1);
        waits("while the other goes on", by(0, 9, 9, "a=1", "a=b*c;d=a+a"), 0, 0, 0, 0, 0);
        TwinThreads x = by(0, 3, 4, "a=1;a?0", "");
        waits("a STOPPED thread", x, 0, 0, 0, 0, 99);
        TwinThreads y = by(0, 3, 9, "a=b*c;b=a+a", "a=[b];b=a+a;c=b*b");
        due("the last start", y.ofThread(1, 8), 13);
        due("each tick up to it is a step or a wait", waited(y, 1) + y.ofThread(1, 1), 14);
        due("each tick up to the last start of the thread 0", waited(y, 0) + y.ofThread(0, 1), y.ofThread(0, 8) + 1);
    }

    private static int waited(TwinThreads x, int thread) {
        return x.ofThread(thread, 4) + x.ofThread(thread, 5) + x.ofThread(thread, 6) + x.ofThread(thread, 7);
    }

    private static void registerIsTheFirstReason() {
        sentence("it waits, for the first of these reasons that applies: 1 a register");
        // Not its turn in 1 and 3 either: 1 is ahead of 4. The tick 3 is a wait for the turn alone.
        waits("ahead of its turn", by(0, 3, 4, "a=b*c;d=a+a", ""), 0, 2, 0, 0, 1);
        waits("ahead of its own room", by(1, 3, 4, "a=b*c;d=a*a", ""), 0, 2, 0, 0, 0);
        // a is ready at 4; the thread 1 has the room for products from 1 to 10.
        TwinThreads x = by(0, 9, 4, "a=[b];d=a*a", "a=b*c");
        starts("ahead of the other one's room", x, 0, 0, 10);
        waits("ahead of the other one's room", x, 0, 3, 0, 6, 0);
        // By TURNS 1 the thread 1 starts a step in each of the ticks 1 to 3.
        waits("ahead of a start of the other one", by(1, 3, 4, "a=b*c;d=a+a", "b=1;c=1;d=1"), 0, 2, 0, 0, 1);
        waits("a register that gets a value", by(1, 3, 4, "a=b*c;a=1", ""), 0, 2, 0, 0, 0);
    }

    private static void ownRoomAheadOfTurn() {
        sentence("2 a room in which a step of its own is");
        waits("ahead of its turn", by(0, 2, 4, "a=b*c;d=b*c", ""), 0, 0, 1, 0, 0);
        waits("its turn behind the room", by(0, 3, 4, "a=b*c;d=b*c", ""), 0, 0, 2, 0, 1);
        waits("the thread 1", by(0, 3, 4, "", "a=[b];[c]=d"), 1, 0, 3, 0, 1);
        waits("ahead of a start of the other one", by(1, 3, 4, "a=b*c;d=b*c", "a=1;b=1;c=1"), 0, 0, 2, 0, 1);
        waits("another room of its own is none", by(0, 9, 9, "a=b*c;d=[b]", ""), 0, 0, 0, 0, 1);
        // The other one's product ended ahead of its own one: it is its own that it waits for.
        TwinThreads x = by(0, 2, 4, "a=b*c", "a=b*c;d=b*c");
        starts("behind both", x, 1, 3, 5);
        waits("behind both", x, 1, 0, 1, 1, 2);
    }

    private static void otherRoomAheadOfTurn() {
        sentence("3 a room in which a step of the other one is");
        TwinThreads x = by(0, 4, 4, "a=b*c", "a=b*c");
        starts("ahead of its turn", x, 1, 5);
        // The tick 0: no room is taken ahead of the start; 1 to 3: the room; 4: free again, but not its turn.
        waits("ahead of its turn", x, 1, 0, 0, 3, 2);
        TwinThreads y = by(1, 3, 4, "b=1;d=b*b", "a=b*c;b=1");
        // 0: thread 0; 1: product of 1 to 4; 2: lent to 1; 3: none; 4: product of 0.
        starts("the thread 0", y, 0, 0, 4);
        waits("the thread 0", y, 0, 0, 0, 2, 1);
        waits("the other room is none", by(0, 9, 9, "a=b*c", "d=[b]"), 1, 0, 0, 0, 1);
    }

    private static void roomsAheadOfAStart() {
        sentence("by rooms as they are ahead of a start in this tick");
        TwinThreads start = by(1, 1, 4, "a=b*c;b=1", "a=b*c");
        // The product of the thread 0 takes the tick 0 alone: the thread 1 waits there, for its turn.
        starts("a room that is taken in this tick", start, 1, 1);
        waits("a room that is taken in this tick", start, 1, 0, 0, 0, 1);
        TwinThreads end = by(0, 2, 4, "a=b*c;b=1", "a=b*c");
        waits("a room that gets free in this tick", end, 1, 0, 0, 1, 2);
        TwinThreads again = by(0, 2, 4, "a=b*c;d=b*c", "a=b*c");
        // 0: product of 0 to 2; 2: the next one to 4; 4: free; 5: product of 1. In 2 the room is free ahead of the start.
        starts("a room that is taken anew", again, 1, 5);
        waits("a room that is taken anew", again, 1, 0, 0, 2, 3);
    }
}
