import java.util.LinkedHashMap;
import java.util.List;
import java.util.Map;
import java.util.function.ToIntFunction;

/**
 * The sentences of the promises 1 to 23 that name a boundary case, each at the last value that is allowed and at the
 * first one that is not, with answers worked out by hand.
 */
public final class PromiseBoundaryTest {
    private static final int NO_SUCH = -1, BAD_VALUE = -2, BAD_TEXT = -3, TOO_MANY = -4, NOT_POSSIBLE = -5, NONE = -6;
    private static final int TURNS = TwinThreads.TURNS, PRODUCT = TwinThreads.PRODUCT, CELL = TwinThreads.CELL;
    private static final int MIN = Integer.MIN_VALUE, MAX = Integer.MAX_VALUE;
    private static final int CELL_AT = 4;
    private static final int CALLS = 512;

    private static final Checks CHECKS = new Checks("PromiseBoundaryTest");

    public static void main(String[] args) {
        atMostFiveHundredAndTwelveCalls();
        newObject();
        setAnswersThePreviousOne();
        setIsOutOfRange();
        putTakesOneToEight();
        putTakesCodes33To126();
        putTakesNothingAboveNought();
        putLowestBitsAreTheLastCharacter();
        putIsTooLong();
        wipes();
        faultOfThePad();
        programIsReplaced();
        programEmptiesThePad();
        programIsRefused();
        drops();
        firstAnswersThePreviousOne();
        firstIsRefused();
        exchanges();
        exchangesWithoutPrograms();
        ofOrderIsRefused();
        ofOrderOfEachKind();
        ofThreadIsRefused();
        ofThreadWithoutSteps();
        ofThreadCounts();
        lastIsRefused();
        ofStepIsRefused();
        ofStepWaits();
        atIsRefused();
        atInTheRooms();
        countIsRefused();
        countsGrow();
        aloneIsRefused();
        alone();
        lengthWith();
        bestTurns();
        lengthWithoutIsRefused();
        lengthWithout();
        bestExchangeIsRefused();
        bestExchangeNeedsTwo();
        bestExchangeAtBothEnds();
        bestExchangeWithoutQuestions();
        bestExchangeOfTheSameValues();
        bestExchangeIsShorter();
        bestExchangeOfSeveral();
        undoIsNotPossible();
        sixStatesAreKept();
        oldestIsDropped();
        changesAreRecorded();
        othersAreNotRecorded();
        undoGivesAllBack();
        saveIsRefused();
        savesAll();
        saveOverwrites();
        restoreIsRefused();
        slotKeepsIt();
        restoreIsAChange();
        CHECKS.end();
    }

    private static void due(String call, long got, long want) {
        CHECKS.due(call, got, want);
    }

    private static void sentence(String sentence) {
        CHECKS.sentence(sentence);
    }

    private static TwinThreads by(int turns, int product, int cell, String program0, String program1) {
        TwinThreads x = Checks.with(program0, program1);
        x.set(TURNS, turns);
        x.set(PRODUCT, product);
        x.set(CELL, cell);
        return x;
    }

    private static void atMostFiveHundredAndTwelveCalls() {
        sentence("An object is used for at most 512 calls after it has been made");
        TwinThreads changed = new TwinThreads();
        for (int call = 0; call < CALLS; call++) {
            due("call " + call + ", first", changed.first(1, 11, call + 1), call);
        }
        TwinThreads padded = new TwinThreads();
        for (int call = 0; call < CALLS; call++) {
            boolean wipe = call % 81 == 80;
            due("call " + call + ", pad", wipe ? padded.wipe() : padded.put('a'), wipe ? 80 : call % 81 + 1);
        }
        TwinThreads asked = Checks.with("a=b*c;d=a+a;c=2", "");
        asked.first(0, 0, 7);
        for (int call = 7; call < CALLS; call++) {
            due("call " + call + ", bestExchange", asked.bestExchange(0, 1), 5);
        }
    }

    // ---- Promise 1

    private static void newObject() {
        sentence("1: Creates threads without programs");
        TwinThreads x = new TwinThreads();
        int[] counts = {0, 0, 0, 0, 0, 0, 0, 0, 3, 4};
        for (int what = 0; what <= 9; what++) {
            due("count(" + what + ")", x.count(what), counts[what]);
        }
        for (int thread = 0; thread < 2; thread++) {
            for (int what = 0; what <= 10; what++) {
                due("ofThread(" + thread + ", " + what + ")", x.ofThread(thread, what), what == 8 ? NONE : 0);
            }
            for (int at = 0; at <= 11; at++) {
                due("last(" + thread + ", " + at + ")", x.last(thread, at), 0);
            }
            due("ofOrder", x.ofOrder(thread, 0, 0), NO_SUCH);
            due("ofStep", x.ofStep(thread, 0, 0), NO_SUCH);
            due("alone", x.alone(thread), 0);
            due("lengthWithout", x.lengthWithout(thread), 0);
            due("bestExchange, the order", x.bestExchange(thread, 0), NONE);
            due("bestExchange, the length", x.bestExchange(thread, 1), NONE);
            due("restore", x.restore(thread), NOT_POSSIBLE);
            due("drop", new TwinThreads().drop(thread), 0);
            due("save", new TwinThreads().save(thread), 0);
        }
        for (int turns = 0; turns <= 2; turns++) {
            due("lengthWith", x.lengthWith(turns), 0);
            due("at", x.at(0, turns), NONE);
        }
        due("bestTurns", x.bestTurns(), 0);
        due("fault", x.fault(), 0);
        due("wipe", x.wipe(), 0);
        due("undo", x.undo(), NOT_POSSIBLE);
        due("exchange", x.exchange(), 0);
    }

    // ---- Promise 2

    private static void setAnswersThePreviousOne() {
        sentence("2: Returns the previous value");
        TwinThreads x = new TwinThreads();
        due("TURNS", x.set(TURNS, 2), 0);
        due("TURNS again", x.set(TURNS, 1), 2);
        due("PRODUCT", x.set(PRODUCT, 9), 3);
        due("PRODUCT again", x.set(PRODUCT, 1), 9);
        due("CELL", x.set(CELL, 9), 4);
        due("CELL alike", x.set(CELL, 9), 9);
        due("CELL again", x.set(CELL, 1), 9);
        due("TURNS as it was", x.count(7), 1);
        due("PRODUCT as it was", x.count(8), 1);
    }

    private static void setIsOutOfRange() {
        sentence("2: BAD_VALUE if there is no such setting, or the value is out of its range");
        TwinThreads x = new TwinThreads();
        for (int setting : new int[] {MIN, -1, 3, MAX}) {
            for (int value : new int[] {0, 1, 2, 9}) {
                due("set(" + setting + ", " + value + ")", x.set(setting, value), BAD_VALUE);
            }
        }
        due("TURNS -1", x.set(TURNS, -1), BAD_VALUE);
        due("TURNS 3", x.set(TURNS, 3), BAD_VALUE);
        due("TURNS 2", x.set(TURNS, 2), 0);
        due("TURNS 0", x.set(TURNS, 0), 2);
        for (int setting = PRODUCT; setting <= CELL; setting++) {
            due("0 for " + setting, x.set(setting, 0), BAD_VALUE);
            due("10 for " + setting, x.set(setting, 10), BAD_VALUE);
            due("1 for " + setting, x.set(setting, 1), setting + 2);
            due("9 for " + setting, x.set(setting, 9), 1);
        }
        due("changes", x.count(6), 6);
    }

    // ---- Promise 3

    private static void putTakesOneToEight() {
        sentence("3: 1 to 8 characters");
        due("none", new TwinThreads().put(0), BAD_VALUE);
        for (int many = 1; many <= 8; many++) {
            TwinThreads x = new TwinThreads();
            due(many + " characters", x.put(Checks.number("a=b+c;a=".substring(0, many))), many);
            due(many + " characters, count(5)", x.count(5), many);
        }
    }

    private static void putTakesCodes33To126() {
        sentence("3: BAD_VALUE if a code is not 33 to 126");
        for (int place = 0; place < 8; place++) {
            long others = 0x6161616161616161L & ~(255L << 8 * place);
            for (int code : new int[] {1, 32, 33, 126, 127, 128, 255}) {
                TwinThreads x = new TwinThreads();
                boolean good = code == 33 || code == 126;
                due("code " + code + " at " + place, x.put(others | (long) code << 8 * place), good ? 8 : BAD_VALUE);
                due("the pad then", x.count(5), good ? 8 : 0);
            }
        }
        for (int code = -1; code <= 256; code++) {
            TwinThreads x = new TwinThreads();
            due("code " + code + " alone", x.put(code), code >= 33 && code <= 126 ? 1 : BAD_VALUE);
        }
        due("the least number", new TwinThreads().put(Long.MIN_VALUE), BAD_VALUE);
        due("the greatest number", new TwinThreads().put(Long.MAX_VALUE), BAD_VALUE);
    }

    private static void putTakesNothingAboveNought() {
        sentence("3: BAD_VALUE if a bit above 8 bits that are 0 is not 0");
        for (int many = 0; many < 8; many++) {
            long text = many == 0 ? 0 : Checks.number("a=b+c;a=".substring(0, many));
            for (int bit = 8 * many + 8; bit < 64; bit++) {
                TwinThreads x = new TwinThreads();
                due(many + " characters and the bit " + bit, x.put(text | 1L << bit), BAD_VALUE);
                due("the pad then", x.count(5), 0);
            }
        }
        due("a character behind 8 bits that are 0", new TwinThreads().put(0x6100L), BAD_VALUE);
        due("a character on both sides of them", new TwinThreads().put(0x610061L), BAD_VALUE);
    }

    private static void putLowestBitsAreTheLastCharacter() {
        sentence("3: its lowest 8 bits are the last character, the next 8 bits the one before, and so on");
        TwinThreads x = new TwinThreads();
        due("d=12;[c] in one number", x.put(0x643d31323b5b635dL), 8);
        due("=b in the next one", x.put(0x3d62L), 10);
        due("two orders", x.program(0), 2);
        due("into d", x.ofOrder(0, 0, 1), 3);
        due("12", x.ofOrder(0, 0, 4), 12);
        due("the cell told by c", x.ofOrder(0, 1, 1), 2);
        due("gets b", x.ofOrder(0, 1, 2), 1);
    }

    private static void putIsTooLong() {
        sentence("3: TOO_MANY if the pad would be longer than 80");
        for (int had = 72; had <= 80; had++) {
            for (int many = 1; many <= 8; many++) {
                TwinThreads x = new TwinThreads();
                Checks.write(x, "~".repeat(had));
                boolean fits = had + many <= 80;
                due(many + " to " + had, x.put(Checks.number("!!!!!!!!".substring(0, many))), fits ? had + many : TOO_MANY);
                due("the pad then", x.count(5), fits ? had + many : had);
            }
        }
    }

    // ---- Promises 4 and 5

    private static void wipes() {
        sentence("4: Empties the pad, and returns the length that it had");
        for (int length : new int[] {0, 1, 79, 80}) {
            TwinThreads x = new TwinThreads();
            Checks.write(x, "a".repeat(length));
            due("wipe of " + length, x.wipe(), length);
            due("the length then", x.count(5), 0);
            due("wiped again", x.wipe(), 0);
            due("the fault then", x.fault(), 0);
            due("one more character", x.put('b'), 1);
        }
    }

    private static void faultOfThePad() {
        sentence("5: Returns the fault of the pad, NONE if there is none");
        TwinThreads x = new TwinThreads();
        due("empty", x.fault(), 0);
        String text = "a=10;b?0";
        int[] faults = {1, 2, NONE, NONE, 5, 6, 7, NONE};
        for (int at = 0; at < faults.length; at++) {
            x.put(text.charAt(at));
            due("up to " + text.substring(0, at + 1), x.fault(), faults[at]);
            due("the pad is kept", x.count(5), at + 1);
        }
        x.put('0');
        due("a digit behind a 0", x.fault(), 8);
        x.put(';');
        due("the first fault stays", x.fault(), 8);
    }

    // ---- Promise 6

    private static void programIsReplaced() {
        sentence("6: Reads the pad as the program of a thread, in place of the one that it has");
        TwinThreads x = Checks.with("a=1;b=2;c=3", "d=4");
        Checks.write(x, "d=99");
        due("one order", x.program(0), 1);
        due("orders then", x.ofThread(0, 0), 1);
        due("the order 0", x.ofOrder(0, 0, 4), 99);
        due("the order 1", x.ofOrder(0, 1, 4), NO_SUCH);
        due("b is not given", x.last(0, 1), 0);
        due("steps", x.ofThread(0, 1), 1);
        due("the other one's program", x.ofOrder(1, 0, 4), 4);
        x.first(0, 2, 8);
        Checks.write(x, "a=c+c;b=c+c");
        due("two orders", x.program(0), 2);
        due("first values stay", x.last(0, 1), 16);
    }

    private static void programEmptiesThePad() {
        sentence("6: and empties the pad");
        TwinThreads x = new TwinThreads();
        Checks.write(x, "a=1");
        due("program", x.program(1), 1);
        due("the pad then", x.count(5), 0);
        due("its fault", x.fault(), 0);
        due("it can't be read again", x.program(1), BAD_TEXT);
        due("the program is kept", x.ofThread(1, 0), 1);
        Checks.write(x, "c=10;".repeat(11) + "[a]=b");
        due("twelve orders", x.program(0), 12);
        due("the pad then", x.count(5), 0);
    }

    private static void programIsRefused() {
        sentence("6: NO_SUCH if there is no such thread; BAD_TEXT if the pad has a fault; TOO_MANY if it has more than 12 orders");
        for (int orders = 1; orders <= 20; orders++) {
            TwinThreads x = new TwinThreads();
            String text = "a=1;".repeat(orders - 1) + "a=1";
            Checks.write(x, text);
            for (int thread : new int[] {MIN, -1, 2, MAX}) {
                due("thread " + thread, x.program(thread), NO_SUCH);
            }
            due(orders + " orders", x.program(orders % 2), orders <= 12 ? orders : TOO_MANY);
            due("the pad then", x.count(5), orders <= 12 ? 0 : text.length());
            due("changes then", x.count(6), orders <= 12 ? 1 : 0);
            TwinThreads y = new TwinThreads();
            Checks.write(y, orders < 20 ? text + ";" : text.substring(0, 78));
            due(orders + " orders and a fault", y.program(0), BAD_TEXT);
            due("the pad then", y.count(5), orders < 20 ? text.length() + 1 : 78);
            due("changes then", y.count(6), 0);
        }
    }

    // ---- Promise 7

    private static void drops() {
        sentence("7: Takes the program of a thread away. Returns how many orders it had; NO_SUCH if there is no such thread");
        for (int orders : new int[] {1, 12}) {
            TwinThreads x = Checks.with("a=1;".repeat(orders - 1) + "b=2", "c=3");
            for (int thread : new int[] {MIN, -1, 2, MAX}) {
                due("drop(" + thread + ")", x.drop(thread), NO_SUCH);
            }
            due("drop of " + orders, x.drop(0), orders);
            due("orders then", x.ofThread(0, 0), 0);
            due("steps then", x.ofThread(0, 1), 0);
            due("the order 0", x.ofOrder(0, 0, 0), NO_SUCH);
            due("the values are the first ones", x.last(0, 1), 0);
            due("the other one's program", x.ofThread(1, 0), 1);
            due("dropped again", x.drop(0), 0);
            due("drop of the other one", x.drop(1), 1);
            due("the length then", x.count(0), 0);
        }
        TwinThreads values = Checks.with("a=1", "");
        for (int at = 0; at <= 11; at++) {
            values.first(0, at, 30 + at);
        }
        Checks.write(values, "d=5");
        values.drop(0);
        due("the pad stays", values.count(5), 3);
        for (int at = 0; at <= 11; at++) {
            due("first values stay, at " + at, values.last(0, at), 30 + at);
        }
        values.program(0);
        for (int at = 0; at <= 11; at++) {
            due("and by another program, at " + at, values.last(0, at), at == 3 ? 5 : 30 + at);
        }
    }

    // ---- Promise 8

    private static void firstAnswersThePreviousOne() {
        sentence("8: Tells the first value of a register (0 to 3) or of a cell (4 to 11 for the cells 0 to 7). Returns the previous one");
        for (int thread = 0; thread < 2; thread++) {
            TwinThreads x = new TwinThreads();
            for (int at = 0; at <= 11; at++) {
                due("first at " + at, x.first(thread, at, 999 - at), 0);
                due("first again at " + at, x.first(thread, at, at), 999 - at);
                due("alike at " + at, x.first(thread, at, at), at);
                due("of the other one at " + at, x.last(1 - thread, at), 0);
            }
            for (int at = 0; at <= 11; at++) {
                due("last at " + at, x.last(thread, at), at);
            }
        }
        TwinThreads given = Checks.with("a=5;[c]=a", "");
        given.first(0, 0, 1);
        due("the previous first value, not the last one", given.first(0, 0, 2), 1);
        due("likewise of a cell", given.first(0, CELL_AT, 3), 0);
    }

    private static void firstIsRefused() {
        sentence("8: NO_SUCH if there is no such thread, register or cell; BAD_VALUE if value is out of range");
        TwinThreads x = new TwinThreads();
        for (int value : new int[] {MIN, -1, 0, 999, 1000, MAX}) {
            boolean good = value == 0 || value == 999;
            for (int thread : new int[] {MIN, -1, 2, MAX}) {
                due("thread " + thread + ", value " + value, x.first(thread, 0, value), NO_SUCH);
            }
            for (int at : new int[] {MIN, -1, 12, MAX}) {
                due("at " + at + ", value " + value, x.first(0, at, value), NO_SUCH);
            }
            due("at 0, value " + value, new TwinThreads().first(0, 0, value), good ? 0 : BAD_VALUE);
            due("at 11, value " + value, new TwinThreads().first(1, 11, value), good ? 0 : BAD_VALUE);
        }
        due("changes", x.count(6), 0);
    }

    // ---- Promise 9

    private static void exchanges() {
        sentence("9: Exchanges the threads: programs and first values. Returns the length of the run then");
        TwinThreads x = by(0, 5, 7, "d=b*c;b?9", "a=[c]");
        for (int at = 0; at <= 11; at++) {
            x.first(0, at, 10 + at);
            x.first(1, at, 20 + at);
        }
        Checks.write(x, "a=");
        due("the length", x.count(0), 8);
        // The thread 0 has the cell now (0 to 7), the thread 1 the product: 1 to 6, and "?" at 3.
        due("exchange", x.exchange(), 7);
        due("TURNS stays", x.count(7), 0);
        due("PRODUCT stays", x.count(8), 5);
        due("CELL stays", x.count(9), 7);
        due("the pad stays", x.count(5), 2);
        due("orders of 0", x.ofThread(0, 0), 1);
        due("orders of 1", x.ofThread(1, 0), 2);
        due("the order of 0", x.ofOrder(0, 0, 0), 4);
        due("the order 1 of 1", x.ofOrder(1, 1, 4), 9);
        for (int at = 1; at <= 11; at++) {
            due("last(0, " + at + ")", x.last(0, at), 20 + at);
            due("last(1, " + at + ")", x.last(1, at), at == 3 ? 11 * 12 : 10 + at);
        }
        due("the cell 22 by 8", x.last(0, 0), 20 + CELL_AT + 6);
        due("a first value of the thread 1", x.first(1, 0, 0), 10);
        due("exchanged back", x.exchange(), 8);
        due("orders of 0", x.ofThread(0, 0), 2);
        due("a first value of the thread 0", x.last(0, 0), 0);
    }

    private static void exchangesWithoutPrograms() {
        sentence("9: Exchanges the threads (also without a program). This is a change");
        TwinThreads x = new TwinThreads();
        due("without any", x.exchange(), 0);
        due("a change", x.count(6), 1);
        Checks.give(x, 0, "a=b*c");
        due("with one", x.exchange(), 4);
        due("none for the thread 0", x.ofThread(0, 0), 0);
        due("it is the thread 1's", x.ofThread(1, 0), 1);
        due("back", x.exchange(), 3);
        due("changes", x.count(6), 4);
    }

    // ---- Promise 10

    private static void ofOrderIsRefused() {
        sentence("10: NO_SUCH if there is no such thread or order; BAD_VALUE if what is out of range");
        for (int orders : new int[] {1, 2, 11, 12}) {
            TwinThreads x = Checks.with("a=5;".repeat(orders - 1) + "a=5", "b=6");
            for (int what : new int[] {MIN, -1, 0, 4, 5, MAX}) {
                int want = what == 0 ? 0 : what == 4 ? 5 : BAD_VALUE;
                due("the first order, what " + what, x.ofOrder(0, 0, what), want);
                due("the last order, what " + what, x.ofOrder(0, orders - 1, what), want);
                for (int order : new int[] {MIN, -1, orders, 12, MAX}) {
                    due("order " + order + " of " + orders + ", what " + what, x.ofOrder(0, order, what), NO_SUCH);
                }
                for (int thread : new int[] {MIN, -1, 2, MAX}) {
                    due("thread " + thread + ", what " + what, x.ofOrder(thread, 0, what), NO_SUCH);
                }
                due("order 1 of the thread 1", x.ofOrder(1, 1, what), NO_SUCH);
            }
        }
    }

    private static void ofOrderOfEachKind() {
        sentence("10: 2 the first register that is read otherwise (NONE for 0 and 6), 3 the second one (for 1 to 3;"
            + " otherwise NONE), 4 the number (for 0 and 6; otherwise NONE)");
        for (int one = 0; one < 4; one++) {
            char a = (char) ('a' + one);
            int two = (one + 1) % 4;
            char b = (char) ('a' + two);
            int three = (one + 2) % 4;
            char c = (char) ('a' + three);
            order(a + "=0", 0, one, NONE, NONE, 0);
            order(a + "=99", 0, one, NONE, NONE, 99);
            order(a + "=" + b + "+" + c, 1, one, two, three, NONE);
            order(a + "=" + b + "-" + c, 2, one, two, three, NONE);
            order(a + "=" + b + "*" + c, 3, one, two, three, NONE);
            order(a + "=[" + b + "]", 4, one, two, NONE, NONE);
            order("[" + a + "]=" + b, 5, one, two, NONE, NONE);
            order(a + "?0", 6, one, NONE, NONE, 0);
            order(a + "?99", 6, one, NONE, NONE, 99);
            order(a + "=" + a + "*" + a, 3, one, one, one, NONE);
        }
    }

    private static void order(String text, int... wants) {
        TwinThreads x = Checks.with("d=1;" + text, text);
        for (int what = 0; what <= 4; what++) {
            due(text + ", what " + what, x.ofOrder(0, 1, what), wants[what]);
            due(text + " of the thread 1, what " + what, x.ofOrder(1, 0, what), wants[what]);
        }
    }

    // ---- Promises 11 and 12

    private static void ofThreadIsRefused() {
        sentence("11: NO_SUCH if there is no such thread; BAD_VALUE if what is out of range");
        TwinThreads x = by(0, 3, 4, "a=b*c;[d]=b", "");
        for (int what : new int[] {MIN, -1, 0, 10, 11, MAX}) {
            for (int thread : new int[] {MIN, -1, 2, MAX}) {
                due("thread " + thread + ", what " + what, x.ofThread(thread, what), NO_SUCH);
            }
            due("what " + what, x.ofThread(0, what), what == 0 ? 2 : what == 10 ? 1 : BAD_VALUE);
            due("what " + what + " of the thread 1", x.ofThread(1, what), what == 0 || what == 10 ? 0 : BAD_VALUE);
        }
    }

    private static void ofThreadWithoutSteps() {
        sentence("11: 8 the tick of its last start (NONE)");
        TwinThreads x = new TwinThreads();
        due("no step", x.ofThread(0, 8), NONE);
        Checks.give(x, 0, "a=1");
        due("a step in the tick 0", x.ofThread(0, 8), 0);
        due("no step of the thread 1", x.ofThread(1, 8), NONE);
        Checks.give(x, 1, "a=1");
        due("a step in the tick 1", x.ofThread(1, 8), 1);
        x.drop(0);
        due("no step any more", x.ofThread(0, 8), NONE);
        Checks.give(x, 0, "a=1;a?0");
        due("the hundredth step", x.ofThread(0, 8), 198);
    }

    private static void ofThreadCounts() {
        sentence("11: 9 its products, 10 its steps with cells");
        int[][] told = {{0, 0}, {0, 0}, {0, 0}, {1, 0}, {0, 1}, {0, 1}, {0, 0}};
        String[] orders = {"a=7", "a=b+c", "a=b-c", "a=b*c", "a=[b]", "[a]=b", "a?7"};
        for (int kind = 0; kind < orders.length; kind++) {
            TwinThreads x = Checks.with(orders[kind], "a=b*c;[a]=b;c=[d]");
            due(orders[kind] + ": products", x.ofThread(0, 9), told[kind][0]);
            due(orders[kind] + ": steps with cells", x.ofThread(0, 10), told[kind][1]);
        }
        // Steps are counted, not orders: the loop goes round thrice, the last order is left out.
        TwinThreads x = Checks.with("d=d-c;b=b*b;[a]=b;d?0;a?9;a=b*b", "");
        x.first(0, 3, 3);
        x.first(0, 2, 1);
        x.first(0, 0, 1);
        due("orders", x.ofThread(0, 0), 6);
        due("steps", x.ofThread(0, 1), 13);
        due("products", x.ofThread(0, 9), 3);
        due("steps with cells", x.ofThread(0, 10), 3);
    }

    private static void lastIsRefused() {
        sentence("12: NO_SUCH if there is no such thread, register or cell");
        TwinThreads x = Checks.with("d=5;c=7;[c]=d", "");
        due("the register 0", x.last(0, 0), 0);
        due("the register 3", x.last(0, 3), 5);
        due("the cell 0", x.last(0, 4), 0);
        due("the cell 7", x.last(0, 11), 5);
        for (int at : new int[] {MIN, -1, 12, MAX}) {
            due("at " + at, x.last(0, at), NO_SUCH);
            due("of the thread 1 at " + at, x.last(1, at), NO_SUCH);
        }
        for (int thread : new int[] {MIN, -1, 2, MAX}) {
            due("thread " + thread, x.last(thread, 0), NO_SUCH);
        }
    }

    // ---- Promise 13

    private static void ofStepIsRefused() {
        sentence("13: NO_SUCH if there is no such thread or step; BAD_VALUE if what is out of range");
        String[] programs = {"b=1", "b=1;c=2", "b=1;b?0"};
        int[] steps = {1, 2, 100};
        for (int row = 0; row < steps.length; row++) {
            TwinThreads x = Checks.with(programs[row], "");
            for (int what : new int[] {MIN, -1, 0, 3, 4, MAX}) {
                int last = 2 * (steps[row] - 1);
                due("the first step, what " + what, x.ofStep(0, 0, what), what == 0 || what == 3 ? 0 : BAD_VALUE);
                int want = what == 0 ? last : what == 3 ? Math.min(last, 1) : BAD_VALUE;
                due("the last of " + steps[row] + ", what " + what, x.ofStep(0, steps[row] - 1, what), want);
                for (int step : new int[] {MIN, -1, steps[row], 100, MAX}) {
                    due("step " + step + " of " + steps[row] + ", what " + what, x.ofStep(0, step, what), NO_SUCH);
                }
                for (int thread : new int[] {MIN, -1, 1, 2, MAX}) {
                    due("thread " + thread + ", what " + what, x.ofStep(thread, 0, what), NO_SUCH);
                }
            }
        }
    }

    private static void ofStepWaits() {
        sentence("13: how many ticks the thread waited just ahead of it (since its step ahead started, or since the tick 0)");
        TwinThreads x = by(1, 9, 4, "a=b*c;d=1;d=a+a;c=2", "");
        int[] starts = {0, 1, 9, 10};
        int[] waits = {0, 0, 7, 0};
        for (int step = 0; step < 4; step++) {
            due("start of " + step, x.ofStep(0, step, 0), starts[step]);
            due("waits ahead of " + step, x.ofStep(0, step, 3), waits[step]);
        }
        TwinThreads one = by(0, 9, 4, "", "a=1;b=1");
        due("since the tick 0", one.ofStep(1, 0, 3), 1);
        due("since its step ahead", one.ofStep(1, 1, 3), 1);
        TwinThreads long0 = by(0, 9, 4, "a=b*c", "a=b*c");
        due("since the tick 0, for a room", long0.ofStep(1, 0, 3), 9);
        sentence("13: 1 its order, 2 the tick in which it has ended");
        TwinThreads led = by(1, 3, 4, "a=1;a?3;b=1;c=a*a", "");
        int[][] told = {{0, 1}, {1, 2}, {3, 5}};
        for (int step = 0; step < told.length; step++) {
            due("order of " + step, led.ofStep(0, step, 1), told[step][0]);
            due("end of " + step, led.ofStep(0, step, 2), told[step][1]);
        }
    }

    // ---- Promise 14

    private static void atIsRefused() {
        sentence("14: BAD_VALUE if tick is below 0, or what is out of range; NONE if there is none");
        TwinThreads x = by(0, 3, 4, "a=b*c;c=[d]", "");
        for (int what : new int[] {MIN, -1, 3, MAX}) {
            for (int tick : new int[] {MIN, -1, 0, 1, 99, MAX}) {
                due("at(" + tick + ", " + what + ")", x.at(tick, what), BAD_VALUE);
            }
        }
        int[] last = {2, 2, 5};
        int[] first = {0, 0, 2};
        for (int what = 0; what <= 2; what++) {
            due("at(-1, " + what + ")", x.at(-1, what), BAD_VALUE);
            due("at(MIN, " + what + ")", x.at(MIN, what), BAD_VALUE);
            due("the first, what " + what, x.at(first[what], what), 0);
            due("the last, what " + what, x.at(last[what], what), 0);
            due("behind it, what " + what, x.at(last[what] + 1, what), NONE);
            due("at(6, " + what + ")", x.at(6, what), NONE);
            due("at(MAX, " + what + ")", x.at(MAX, what), NONE);
        }
        due("no cell in the tick 1", x.at(1, 2), NONE);
    }

    private static void atInTheRooms() {
        sentence("14: the thread whose step is in the room (when it has been started, if one was)");
        for (int ticks = 1; ticks <= 9; ticks++) {
            TwinThreads x = by(1, ticks, 10 - ticks, "a=b*c", "a=b*c");
            TwinThreads y = by(1, 10 - ticks, ticks, "a=[b]", "[a]=b");
            for (int tick = 0; tick <= 2 * ticks + 1; tick++) {
                int thread = tick < ticks ? 0 : tick < 2 * ticks ? 1 : NONE;
                String name = " in the tick " + tick + " by " + ticks;
                due("product" + name, x.at(tick, 1), thread);
                due("cell" + name, y.at(tick, 2), thread);
                due("no cell" + name, x.at(tick, 2), NONE);
                due("no product" + name, y.at(tick, 1), NONE);
                due("start" + name, x.at(tick, 0), tick == 0 ? 0 : tick == ticks ? 1 : NONE);
            }
        }
    }

    // ---- Promise 15

    private static void countIsRefused() {
        sentence("15: BAD_VALUE if what is out of range");
        TwinThreads x = by(2, 6, 8, "a=b*c", "");
        due("count(0)", x.count(0), 6);
        due("count(9)", x.count(9), 8);
        for (int what : new int[] {MIN, -1, 10, MAX}) {
            due("count(" + what + ")", x.count(what), BAD_VALUE);
        }
    }

    private static void countsGrow() {
        sentence("15: 1 steps of both threads, 2 ticks of the run in which none starts, 3 and 4 ticks in which a room is taken");
        TwinThreads x = by(0, 9, 7, "a=b*c", "a=[b];c=1");
        // 0: the product of 0 to 9; 1: the cell of 1 to 8; 3: c=1.
        int[] wants = {9, 3, 6, 9, 7};
        for (int what = 0; what < wants.length; what++) {
            due("count(" + what + ")", x.count(what), wants[what]);
        }
        TwinThreads full = by(1, 1, 1, "b=1;b?0", "c=1;c?0");
        due("200 steps", full.count(1), 200);
        due("in 200 ticks", full.count(0), 200);
        due("none without a start", full.count(2), 0);
        TwinThreads products = by(0, 9, 1, "a=b*c;d?0", "a=b*c;d?0");
        products.first(0, 3, 1);
        products.first(1, 3, 1);
        // A product each 9 ticks, by odd and even starts in turn: 50 of each thread, 0 to 900.
        due("products of both", products.count(3), 900);
        due("their ticks have no gap", products.at(899, 1), 1);
        due("none behind them", products.at(900, 1), NONE);
        sentence("15: 6 how many changes can be undone");
        TwinThreads y = new TwinThreads();
        for (int changes = 0; changes <= 8; changes++) {
            due("behind " + changes + " changes", y.count(6), Math.min(changes, 6));
            y.set(PRODUCT, 1);
        }
    }

    // ---- Promises 16 to 19

    private static void aloneIsRefused() {
        sentence("16: NO_SUCH if there is no such thread");
        TwinThreads x = by(0, 9, 9, "a=1", "b=1");
        for (int thread : new int[] {MIN, -1, 2, MAX}) {
            due("alone(" + thread + ")", x.alone(thread), NO_SUCH);
        }
        due("alone(0)", x.alone(0), 1);
        due("alone(1)", x.alone(1), 2);
    }

    private static void alone() {
        sentence("16: the length that a thread would have if the other one had no program (with TURNS as it is)");
        int[][] wants = {{3, 4}, {3, 3}, {3, 3}};
        int[][] others = {{5, 6}, {4, 4}, {4, 4}};
        for (int turns = 0; turns <= 2; turns++) {
            TwinThreads x = by(turns, 3, 4, "a=b*c", "a=b*c");
            due("alone(0) by turns " + turns, x.alone(0), wants[turns][0]);
            due("alone(1) by turns " + turns, x.alone(1), wants[turns][1]);
            TwinThreads y = by(turns, 3, 4, "a=b*c;a=1", "a=b*c;a=1");
            due("alone(0) of two by turns " + turns, y.alone(0), others[turns][0]);
            due("alone(1) of two by turns " + turns, y.alone(1), others[turns][1]);
            TwinThreads none = by(turns, 3, 4, "", "a=b*c;a=1;b=1");
            due("no program by turns " + turns, none.alone(0), 0);
            due("the one that has one by turns " + turns, none.alone(1), none.count(0));
        }
        TwinThreads values = by(0, 3, 4, "", "b?3;a=1;a=2;c=1");
        due("by its own first values", values.alone(1), 8);
        values.first(1, 1, 1);
        due("by its own first values, led", values.alone(1), 4);
    }

    private static void lengthWith() {
        sentence("17: turns 0 to 2; BAD_VALUE if turns is out of range");
        for (int set = 0; set <= 2; set++) {
            TwinThreads x = by(set, 3, 2, "[c]=d;b=[d]", "a=[b];a=1");
            int[] wants = {8, 7, 6};
            for (int turns = 0; turns <= 2; turns++) {
                due("lengthWith(" + turns + ") by " + set, x.lengthWith(turns), wants[turns]);
            }
            for (int turns : new int[] {MIN, -1, 3, MAX}) {
                due("lengthWith(" + turns + ")", x.lengthWith(turns), BAD_VALUE);
            }
            due("the length", x.count(0), wants[set]);
            due("TURNS as it was", x.count(7), set);
        }
    }

    private static void bestTurns() {
        sentence("18: the way to give turns with which the run is the shortest, of several the lowest one");
        bestTurns(0, by(0, 5, 2, "b=2", "b=2"), 2, 2, 2);
        bestTurns(0, by(0, 3, 2, "[c]=d;a=1;b=[d]", "a=[b];a=b*c"), 8, 9, 8);
        bestTurns(0, by(0, 2, 4, "d=c*c;[c]=d", "d=c*c"), 6, 6, 7);
        bestTurns(0, by(0, 4, 5, "a=b*c;a=[b];a=b*c", "a=1;b=2;a=[b]"), 14, 17, 17);
        bestTurns(1, by(0, 3, 2, "b=[d];a=b*c", "a=[b];b=2"), 6, 5, 6);
        bestTurns(1, by(0, 2, 2, "[c]=d", "a=[b]"), 5, 4, 4);
        bestTurns(1, by(0, 3, 2, "b=[d];b=[d];d=c*c", "b=[d]"), 7, 6, 8);
        bestTurns(2, by(0, 2, 4, "b=[d];b=2", "[c]=d"), 9, 9, 8);
        bestTurns(2, by(0, 3, 2, "[c]=d;b=[d]", "a=[b];a=1"), 8, 7, 6);
    }

    private static void bestTurns(int want, TwinThreads x, int... lengths) {
        for (int set = 0; set <= 2; set++) {
            x.set(TURNS, set);
            for (int turns = 0; turns <= 2; turns++) {
                due("lengthWith(" + turns + ")", x.lengthWith(turns), lengths[turns]);
            }
            due("bestTurns of " + lengths[0] + ", " + lengths[1] + ", " + lengths[2] + " by " + set, x.bestTurns(), want);
            due("TURNS as it was", x.count(7), set);
        }
    }

    private static void lengthWithoutIsRefused() {
        sentence("19: BAD_VALUE if room is neither 0 nor 1");
        TwinThreads x = by(1, 9, 9, "a=b*c;d=b*c", "");
        for (int room : new int[] {MIN, -1, 2, MAX}) {
            due("lengthWithout(" + room + ")", x.lengthWithout(room), BAD_VALUE);
        }
        due("lengthWithout(0)", x.lengthWithout(0), 10);
        due("lengthWithout(1)", x.lengthWithout(1), 18);
    }

    private static void lengthWithout() {
        sentence("19: if products, or steps with cells, took no room (any number of them at a time; they take their ticks)");
        TwinThreads products = by(1, 9, 4, "a=b*c;d=b*c;c=b*b", "a=b*c;d=b*c;c=b*b");
        // Without the room one starts in each of the ticks 0 to 5.
        due("products with their room", products.count(0), 54);
        due("products without their room", products.lengthWithout(0), 14);
        due("products without the room for cells", products.lengthWithout(1), 54);
        TwinThreads cells = by(2, 4, 9, "a=[b];[c]=d;c=[d]", "a=[b];[c]=d;c=[d]");
        due("cells with their room", cells.count(0), 54);
        due("cells without their room", cells.lengthWithout(1), 14);
        due("cells without the room for products", cells.lengthWithout(0), 54);
        TwinThreads registers = by(1, 9, 9, "a=b*c;d=a*a", "");
        due("registers are waited for", registers.lengthWithout(0), 18);
        TwinThreads turns = by(0, 9, 9, "a=b*c;d=b*c", "");
        due("turns are waited for", turns.lengthWithout(0), 11);
        TwinThreads other = by(0, 9, 9, "a=b*c", "[d]=a;a=b*c");
        // 0: product to 9; 1: cell to 10; 3: product to 12 that no longer waits for the room.
        due("the other one's room", other.lengthWithout(0), 12);
        due("with it", other.count(0), 18);
        due("without any program", new TwinThreads().lengthWithout(0), 0);
    }

    // ---- Promise 20

    private static TwinThreads withSeven(String program0, String program1) {
        TwinThreads x = Checks.with(program0, program1);
        x.first(0, 0, 7);
        return x;
    }

    private static void bestExchangeIsRefused() {
        sentence("20: NO_SUCH if there is no such thread; BAD_VALUE if what is neither 0 nor 1; NONE if there are none");
        TwinThreads x = withSeven("a=b*c;d=a+a;c=2", "");
        for (int what : new int[] {MIN, -1, 0, 1, 2, MAX}) {
            for (int thread : new int[] {MIN, -1, 2, MAX}) {
                due("thread " + thread + ", what " + what, x.bestExchange(thread, what), NO_SUCH);
            }
            due("what " + what, x.bestExchange(0, what), what == 0 ? 1 : what == 1 ? 5 : BAD_VALUE);
            due("none, what " + what, x.bestExchange(1, what), what == 0 || what == 1 ? NONE : BAD_VALUE);
        }
    }

    private static void bestExchangeNeedsTwo() {
        sentence("20: Finds two orders of a program that are neighbours");
        due("no order", new TwinThreads().bestExchange(0, 0), NONE);
        due("one order", withSeven("a=b*c", "").bestExchange(0, 0), NONE);
        // c=2 0 to 1, a=b*b 2 to 5; exchanged: 0 to 3 and 2 to 3.
        TwinThreads two = withSeven("c=2;a=b*b", "");
        due("two orders", two.bestExchange(0, 0), 0);
        due("their length", two.bestExchange(0, 1), 3);
        due("two orders in the other order", withSeven("a=b*b;c=2", "").bestExchange(0, 0), NONE);
    }

    private static void bestExchangeAtBothEnds() {
        sentence("20: what 0 the first of both orders, 1 the length of the run then");
        // c=2 0 to 1, a=b*b 2 to 5, d=a+a 6 to 7; the orders 0 and 1 exchanged: 0 to 3, 2 to 3, 4 to 5.
        TwinThreads first = withSeven("c=2;a=b*b;d=a+a", "");
        due("the first two", first.bestExchange(0, 0), 0);
        due("their length", first.bestExchange(0, 1), 5);
        // Behind b=4 the product has to stay, and d=a+a behind the product.
        String nine = "b=3;".repeat(8) + "b=4;";
        // From 18 on: a=b*b 18 to 21, d=a+a 22 to 23, c=3 24 to 25; the orders 10 and 11 exchanged: 18, 20, 22 to 23.
        TwinThreads last = withSeven(nine + "a=b*b;d=a+a;c=3", "");
        due("the last two of twelve", last.bestExchange(0, 0), 10);
        due("their length", last.bestExchange(0, 1), 23);
        due("the length as it is", last.count(0), 25);
        TwinThreads other = Checks.with("", nine + "a=b*b;d=a+a;c=3");
        other.first(1, 0, 7);
        due("the last two of twelve of the thread 1", other.bestExchange(1, 0), 10);
        due("their length", other.bestExchange(1, 1), 24);
        due("none without the last one", withSeven(nine + "a=b*b;d=a+a", "").bestExchange(0, 0), NONE);
    }

    /** By PRODUCT 9 "c=2;a=b*b" is two ticks shorter if both are exchanged, and nothing that comes behind hides it. */
    private static int bestByNine(String program0, String program1) {
        TwinThreads x = withSeven(program0, program1);
        x.set(PRODUCT, 9);
        return x.bestExchange(0, 0);
    }

    private static void bestExchangeWithoutQuestions() {
        String pair = "c=2;a=b*b";
        sentence("20: none of them \"?\"");
        due("none is one", bestByNine("c=9;" + pair, ""), 1);
        due("the first is one", bestByNine("b?9;a=c*c;d=1", ""), NONE);
        // "b?9" could be asked while d=a+a waits for the product.
        due("the second is one", bestByNine("a=b*b;d=a+a;b?9", ""), NONE);
        due("it would help if it was none", bestByNine("a=b*b;d=a+a;b=0", ""), 1);
        due("one just ahead of them", bestByNine("b?9;" + pair, ""), 1);
        due("one just behind them", bestByNine(pair + ";b?9", ""), 0);
        sentence("20: none of them one to which a \"?\" of the program leads");
        due("it leads to the first", bestByNine(pair + ";b?0", ""), NONE);
        due("it leads to the second", bestByNine(pair + ";b?1", ""), NONE);
        due("it leads just behind them", bestByNine(pair + ";b?2", ""), 0);
        due("it leads to no order", bestByNine(pair + ";b?3", ""), 0);
        due("it leads far away", bestByNine(pair + ";b?99", ""), 0);
        due("it leads just ahead of them", bestByNine("b=0;" + pair + ";b?0", ""), 1);
        due("it leads to the first, from ahead", bestByNine("b?1;" + pair, ""), NONE);
        due("it leads to the second, from ahead", bestByNine("b?2;" + pair, ""), NONE);
        due("the second ? leads there", bestByNine(pair + ";b?9;b?1", ""), NONE);
        due("the first ? leads there", bestByNine(pair + ";b?1;b?9", ""), NONE);
        due("a ? of the other thread leads there", bestByNine(pair, "b?0;b?1"), 0);
        due("numbers that are no ?", bestByNine(pair + ";d=0;d=1", ""), 0);
    }

    private static void bestExchangeOfTheSameValues() {
        sentence("20: such that, if they were exchanged, the values behind the run would be the same");
        TwinThreads reads = Checks.with("b=2;a=b*c", "");
        reads.first(0, 2, 3);
        due("other a by another b", reads.bestExchange(0, 0), NONE);
        reads.first(0, 2, 0);
        due("the same a by another b", reads.bestExchange(0, 0), 0);
        reads.first(0, 2, 3);
        reads.first(0, 1, 2);
        due("the same a by the same b", reads.bestExchange(0, 0), 0);
        for (int register = 0; register < 4; register++) {
            char r = (char) ('a' + register);
            int asked = (register + 1) % 4;
            char q = (char) ('a' + asked);
            // By PRODUCT 2: 0 and 2 to 4; exchanged 0 to 2 and 2 to 3.
            TwinThreads x = by(0, 2, 4, r + "=1;" + r + "=" + q + "*" + q, "");
            x.first(0, asked, 2);
            due("other " + r, x.bestExchange(0, 0), NONE);
            x.first(0, asked, 1);
            due("the same " + r, x.bestExchange(0, 0), 0);
            due("the length then", x.bestExchange(0, 1), 3);
        }
        for (int cell = 0; cell < 8; cell++) {
            TwinThreads x = Checks.with("b=5;[a]=b", "");
            x.first(0, 0, cell);
            due("other cell " + cell, x.bestExchange(0, 0), NONE);
            x.first(0, 1, 5);
            due("the same cell " + cell, x.bestExchange(0, 0), 0);
            due("the length then", x.bestExchange(0, 1), 4);
        }
        due("other values within the run alone", bestByNine("c=2;b=c*a;c=0;b=0;a=b+c", ""), 0);
    }

    private static void bestExchangeIsShorter() {
        sentence("20: and the run would be shortest (shorter than it is)");
        due("as long as it is", withSeven("c=2;d=3", "").bestExchange(0, 0), NONE);
        due("longer than it is", withSeven("a=b*b;c=2", "").bestExchange(0, 0), NONE);
        // The thread 0 takes 5 ticks, 3 by the exchange; the other one takes 6, 5 or 4.
        due("the other one is longer", withSeven("c=2;a=b*b", "a=1;b=1;c=1").bestExchange(0, 0), NONE);
        due("the other one is as long", withSeven("c=2;a=b*b", "[a]=b").bestExchange(0, 0), NONE);
        TwinThreads x = withSeven("c=2;a=b*b", "a=1;b=1");
        due("the other one is shorter by one tick", x.bestExchange(0, 0), 0);
        due("the length of the run then, not of the thread", x.bestExchange(0, 1), 4);
    }

    private static void bestExchangeOfSeveral() {
        sentence("20: of several the first ones");
        TwinThreads alike = withSeven("c=2;a=b*b;d=a+a;c=3;b=d*d", "");
        // 0, 2 to 5, 6, 8, 10 to 13; by 0: 0 to 3, 2, 4, 6, 8 to 11; by 2: 0, 2, 4, 6, 8 to 11.
        due("the length", alike.count(0), 13);
        due("the first of several", alike.bestExchange(0, 0), 0);
        due("their length", alike.bestExchange(0, 1), 11);
        TwinThreads later = withSeven("c=2;a=b*b;d=a+a;c=3;b=d*d", "");
        later.set(PRODUCT, 1);
        due("none by PRODUCT 1", later.bestExchange(0, 0), NONE);
        sentence("20: and the run would be shortest");
        // 0, 1 to 4, 4 and 5 to 14; by 0: 0 to 3, 1, 3 and 4 to 13; by 2: 0, 1 to 4, 2 to 11 and 4.
        TwinThreads most = by(1, 3, 9, "c=2;a=b*b;d=a+a;b=[c]", "");
        due("the length", most.count(0), 14);
        due("one that helps most", most.bestExchange(0, 0), 2);
        due("its length", most.bestExchange(0, 1), 11);
    }

    // ---- Promise 21

    private static void undoIsNotPossible() {
        sentence("21: Returns how many changes can be undone then; NOT_POSSIBLE if there is none");
        TwinThreads x = new TwinThreads();
        due("none yet", x.undo(), NOT_POSSIBLE);
        x.set(PRODUCT, 5);
        due("one", x.undo(), 0);
        due("none left", x.undo(), NOT_POSSIBLE);
        due("as it was", x.count(8), 3);
        x.set(PRODUCT, 6);
        x.set(PRODUCT, 7);
        due("two", x.undo(), 1);
        due("the first one stands", x.count(8), 6);
        due("the other one", x.undo(), 0);
        due("none stands", x.count(8), 3);
        due("none left", x.undo(), NOT_POSSIBLE);
    }

    private static void sixStatesAreKept() {
        sentence("21: A history of at most 6 states is kept");
        for (int changes = 1; changes <= 20; changes++) {
            TwinThreads x = new TwinThreads();
            for (int value = 1; value <= changes; value++) {
                x.first(0, 0, value);
                due("count(6) behind " + value, x.count(6), Math.min(value, 6));
            }
            int kept = Math.min(changes, 6);
            for (int times = 1; times <= kept; times++) {
                due("undo " + times + " of " + changes, x.undo(), kept - times);
                due("undone " + times + " of " + changes, x.last(0, 0), changes - times);
            }
            due("no more of " + changes, x.undo(), NOT_POSSIBLE);
            due("as it was", x.last(0, 0), changes - kept);
        }
    }

    private static void oldestIsDropped() {
        sentence("21: when one more is recorded, the oldest one is dropped");
        TwinThreads x = new TwinThreads();
        for (int value = 1; value <= 9; value++) {
            x.first(1, 11, value);
        }
        due("three undone", x.undo() + x.undo() + x.undo(), 5 + 4 + 3);
        due("the value then", x.last(1, 11), 6);
        for (int value = 101; value <= 104; value++) {
            x.first(1, 11, value);
        }
        int[] wants = {103, 102, 101, 6, 5, 4};
        for (int times = 0; times < 6; times++) {
            due("undo", x.undo(), 5 - times);
            due("undone", x.last(1, 11), wants[times]);
        }
        due("the state by 3 was dropped", x.undo(), NOT_POSSIBLE);
        due("the value then", x.last(1, 11), 4);
    }

    private static TwinThreads some() {
        TwinThreads x = Checks.with("a=b*c;[a]=c", "d=[b];d?9;a=5");
        x.first(0, 1, 3);
        x.first(1, CELL_AT, 8);
        x.save(0);
        Checks.write(x, "a=5");
        return x;
    }

    private static Map<String, ToIntFunction<TwinThreads>> changes() {
        Map<String, ToIntFunction<TwinThreads>> calls = new LinkedHashMap<>();
        calls.put("set(0, 2)", x -> x.set(TURNS, 2));
        calls.put("set(1, 9)", x -> x.set(PRODUCT, 9));
        calls.put("set(2, 1)", x -> x.set(CELL, 1));
        calls.put("set to what it is", x -> x.set(PRODUCT, 3));
        calls.put("program(0)", x -> x.program(0));
        calls.put("program(1)", x -> x.program(1));
        calls.put("drop(0)", x -> x.drop(0));
        calls.put("drop(1)", x -> x.drop(1));
        calls.put("first of a register", x -> x.first(0, 3, 999));
        calls.put("first of a cell", x -> x.first(1, 11, 999));
        calls.put("first to what it is", x -> x.first(0, 1, 3));
        calls.put("exchange", TwinThreads::exchange);
        calls.put("restore(0), alike", x -> x.restore(0));
        return calls;
    }

    private static void changesAreRecorded() {
        sentence("21: each method that is a change, and returns no error, records the state before it (also if nothing is different then)");
        Map<String, ToIntFunction<TwinThreads>> calls = changes();
        for (String call : calls.keySet()) {
            TwinThreads x = some();
            int answer = calls.get(call).applyAsInt(x);
            CHECKS.holds(call + " answered " + answer, answer >= 0);
            due(call + " is recorded", x.count(6), 5);
        }
        TwinThreads none = new TwinThreads();
        due("set alike", none.set(TURNS, 0), 0);
        due("recorded", none.count(6), 1);
        due("drop of nothing", none.drop(0), 0);
        due("recorded", none.count(6), 2);
        due("first alike", none.first(1, 0, 0), 0);
        due("recorded", none.count(6), 3);
        due("exchange of two alike", none.exchange(), 0);
        due("recorded", none.count(6), 4);
        none.save(0);
        due("restore of what it is", none.restore(0), 0);
        due("recorded", none.count(6), 5);
        Checks.give(none, 0, "a=1");
        Checks.give(none, 0, "a=1");
        due("a program alike is the seventh", none.count(6), 6);
        due("undo", none.undo(), 5);
        due("the first of both programs", none.ofThread(0, 0), 1);
        due("undo", none.undo(), 4);
        due("no program", none.ofThread(0, 0), 0);
    }

    private static void othersAreNotRecorded() {
        sentence("21: each method that is a change (put, wipe, save and undo are none)");
        TwinThreads x = some();
        due("changes", x.count(6), 4);
        x.put('1');
        x.fault();
        due("put", x.count(6), 4);
        x.wipe();
        due("wipe", x.count(6), 4);
        x.save(0);
        x.save(1);
        due("save", x.count(6), 4);
        due("undo takes one", x.undo(), 3);
        due("undo", x.count(6), 3);
        Checks.write(x, "b=");
        due("undo leaves the pad", x.undo(), 2);
        due("the pad", x.count(5), 2);
        due("undo leaves the slots", x.restore(1) > 0 ? x.last(1, CELL_AT) : MIN, 8);
    }

    private static void undoGivesAllBack() {
        sentence("21: Undoes the latest change: settings, programs and first values are as they were before it");
        Map<String, ToIntFunction<TwinThreads>> calls = changes();
        List<Integer> before = Observed.state(some());
        for (String call : calls.keySet()) {
            TwinThreads x = some();
            calls.get(call).applyAsInt(x);
            due("undo of " + call, x.undo(), 4);
            CHECKS.holds("all is as it was before " + call, Observed.state(x).equals(before));
        }
        for (int at = 0; at <= 11; at++) {
            for (int thread = 0; thread < 2; thread++) {
                TwinThreads x = new TwinThreads();
                x.first(thread, at, 5);
                x.first(thread, at, 6);
                x.undo();
                due("first(" + thread + ", " + at + ") undone", x.last(thread, at), 5);
            }
        }
        TwinThreads run = Checks.with("a=b*c;d=a+a", "");
        run.set(PRODUCT, 9);
        due("the run by 9", run.count(0), 11);
        run.undo();
        due("the run is as it was, too", run.count(0), 5);
    }

    // ---- Promises 22 and 23

    private static void saveIsRefused() {
        sentence("22: slot 0 or 1; BAD_VALUE if there is no such slot. Returns the length of the run");
        TwinThreads x = Checks.with("a=b*c", "");
        for (int slot : new int[] {MIN, -1, 2, MAX}) {
            due("save(" + slot + ")", x.save(slot), BAD_VALUE);
        }
        due("save(0)", x.save(0), 3);
        due("save(1)", x.save(1), 3);
        due("save of nothing", new TwinThreads().save(0), 0);
        due("no change", x.count(6), 1);
    }

    private static void savesAll() {
        sentence("22: Saves settings, programs and first values in a slot");
        List<Integer> before = Observed.state(some());
        Map<String, ToIntFunction<TwinThreads>> calls = changes();
        for (int slot = 0; slot < 2; slot++) {
            for (String call : calls.keySet()) {
                TwinThreads x = some();
                x.save(slot);
                calls.get(call).applyAsInt(x);
                x.exchange();
                x.first(1, 5, 6);
                due("restore behind " + call, x.restore(slot), some().count(0));
                CHECKS.holds("all is as it was ahead of " + call, Observed.state(x).equals(before));
            }
        }
        TwinThreads pad = some();
        pad.wipe();
        pad.restore(0);
        due("the pad is not saved", pad.count(5), 0);
        TwinThreads kept = some();
        kept.restore(0);
        due("restore leaves the pad", kept.count(5), 3);
    }

    private static void saveOverwrites() {
        sentence("22: and overwrites what was saved there");
        for (int slot = 0; slot < 2; slot++) {
            TwinThreads x = new TwinThreads();
            x.set(PRODUCT, 5);
            x.save(slot);
            x.set(PRODUCT, 6);
            x.save(slot);
            x.set(PRODUCT, 7);
            x.save(1 - slot);
            x.set(PRODUCT, 8);
            due("restore", x.restore(slot), 0);
            due("what was saved last", x.count(8), 6);
            due("the other slot", x.restore(1 - slot), 0);
            due("is one of its own", x.count(8), 7);
        }
    }

    private static void restoreIsRefused() {
        sentence("23: BAD_VALUE if there is no such slot; NOT_POSSIBLE if nothing was saved in it");
        for (int slot = 0; slot < 2; slot++) {
            TwinThreads x = Checks.with("a=b*c", "");
            for (int none : new int[] {MIN, -1, 2, MAX}) {
                due("restore(" + none + ")", x.restore(none), BAD_VALUE);
            }
            due("nothing saved", x.restore(slot), NOT_POSSIBLE);
            x.save(1 - slot);
            due("saved in the other slot", x.restore(slot), NOT_POSSIBLE);
            due("the other slot", x.restore(1 - slot), 3);
            x.save(slot);
            due("saved", x.restore(slot), 3);
            due("restored again", x.restore(slot), 3);
            TwinThreads empty = new TwinThreads();
            due("a state without programs", empty.save(slot), 0);
            Checks.give(empty, 0, "a=1");
            due("is one that was saved", empty.restore(slot), 0);
            due("no program", empty.ofThread(0, 0), 0);
            due("undone", empty.undo(), 1);
            due("the program again", empty.ofThread(0, 0), 1);
        }
    }

    private static void slotKeepsIt() {
        sentence("23: Restores what was saved last in a slot, which keeps it");
        List<Integer> before = Observed.state(some());
        for (int slot = 0; slot < 2; slot++) {
            TwinThreads x = some();
            x.save(slot);
            x.restore(slot);
            x.exchange();
            x.set(CELL, 9);
            x.first(0, 0, 77);
            x.drop(1);
            x.restore(slot);
            CHECKS.holds("restored twice", Observed.state(x).equals(before));
            TwinThreads y = some();
            y.save(slot);
            for (int times = 0; times < 8; times++) {
                y.undo();
            }
            y.restore(slot);
            CHECKS.holds("kept while changes are undone", Observed.state(y).equals(before));
        }
    }

    private static void restoreIsAChange() {
        sentence("23: This is a change. Returns the length of the run then");
        TwinThreads x = Checks.with("a=b*c", "");
        x.save(1);
        x.set(PRODUCT, 9);
        due("the length", x.count(0), 9);
        due("restore", x.restore(1), 3);
        due("changes", x.count(6), 3);
        due("undo", x.undo(), 2);
        due("PRODUCT as before it", x.count(8), 9);
        due("the length as before it", x.count(0), 9);
        due("restored again", x.restore(1), 3);
    }
}
