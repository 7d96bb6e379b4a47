/** The promises one by one, with answers worked out by hand from the document. */
public final class PromiseTest {
    private static final int NO_SUCH = -1, BAD_VALUE = -2, BAD_TEXT = -3, TOO_MANY = -4, NOT_POSSIBLE = -5, NONE = -6;

    private static final Checks CHECKS = new Checks("PromiseTest");

    public static void main(String[] args) {
        newObject();
        settings();
        padTakesCharacters();
        padIsBounded();
        faults();
        programs();
        tooManyOrders();
        drops();
        firstValues();
        exchanges();
        orders();
        registersAreWaitedFor();
        ownRoomIsWaitedFor();
        otherRoomIsWaitedFor();
        stopped();
        values();
        jumps();
        steps();
        lentTurns();
        fairTurns();
        fairTurnsForOneThatHasNotStarted();
        lengthBehindTheLastStep();
        ticks();
        counts();
        aloneAndTurns();
        withoutRooms();
        bestExchanges();
        noExchangeAroundQuestions();
        noExchangeOfOtherValues();
        undoing();
        saving();
        errorsChangeNothing();
        CHECKS.end();
    }

    private static void due(String call, long got, long want) {
        CHECKS.due(call, got, want);
    }

    // Promise 1
    private static void newObject() {
        TwinThreads x = new TwinThreads();
        int[] counts = {0, 0, 0, 0, 0, 0, 0, 0, 3, 4};
        for (int what = 0; what < counts.length; what++) {
            due("new: count(" + what + ")", x.count(what), counts[what]);
        }
        for (int thread = 0; thread < 2; thread++) {
            for (int what = 0; what <= 10; what++) {
                due("new: ofThread(" + thread + ", " + what + ")", x.ofThread(thread, what), what == 8 ? NONE : 0);
            }
            for (int at = 0; at < 12; at++) {
                due("new: last(" + thread + ", " + at + ")", x.last(thread, at), 0);
            }
            due("new: ofOrder", x.ofOrder(thread, 0, 0), NO_SUCH);
            due("new: ofStep", x.ofStep(thread, 0, 0), NO_SUCH);
            due("new: alone", x.alone(thread), 0);
            due("new: bestExchange", x.bestExchange(thread, 0), NONE);
        }
        due("new: bestTurns", x.bestTurns(), 0);
        due("new: undo", x.undo(), NOT_POSSIBLE);
        due("new: restore", x.restore(0), NOT_POSSIBLE);
        due("new: at", x.at(0, 0), NONE);
        due("new: fault", x.fault(), 0);
    }

    // Promise 2
    private static void settings() {
        TwinThreads x = new TwinThreads();
        int[] lowest = {0, 1, 1};
        int[] highest = {2, 9, 9};
        int[] firsts = {0, 3, 4};
        for (int setting = 0; setting < 3; setting++) {
            due("set below", x.set(setting, lowest[setting] - 1), BAD_VALUE);
            due("set above", x.set(setting, highest[setting] + 1), BAD_VALUE);
            due("set highest", x.set(setting, highest[setting]), firsts[setting]);
            due("set lowest", x.set(setting, lowest[setting]), highest[setting]);
            due("set alike", x.set(setting, lowest[setting]), lowest[setting]);
            due("set seen", x.count(7 + setting), lowest[setting]);
        }
        due("set(-1, 1)", x.set(-1, 1), BAD_VALUE);
        due("set(3, 1)", x.set(3, 1), BAD_VALUE);
        due("set(MIN, MIN)", x.set(Integer.MIN_VALUE, Integer.MIN_VALUE), BAD_VALUE);
        due("settings undone", x.undo(), 5);

        TwinThreads y = Checks.with("a=b*c;d=a+a", "");
        due("length by PRODUCT 3", y.count(0), 5);
        y.set(TwinThreads.PRODUCT, 7);
        due("length by PRODUCT 7", y.count(0), 9);
        y.set(TwinThreads.PRODUCT, 1);
        due("length by PRODUCT 1", y.count(0), 3);
        TwinThreads z = Checks.with("a=[b];d=a+a", "");
        due("length by CELL 4", z.count(0), 5);
        z.set(TwinThreads.CELL, 9);
        due("length by CELL 9", z.count(0), 11);
    }

    // Promises 3 and 4
    private static void padTakesCharacters() {
        TwinThreads x = new TwinThreads();
        due("wipe empty", x.wipe(), 0);
        due("put nothing", x.put(0), BAD_VALUE);
        due("put a", x.put('a'), 1);
        due("put =1", x.put(Checks.number("=1")), 3);
        due("fault of a=1", x.fault(), NONE);
        due("put code 32", x.put(32), BAD_VALUE);
        due("put code 127", x.put(127), BAD_VALUE);
        due("put code 33", x.put(33), 4);
        due("put code 126", x.put(126), 5);
        due("put 0 within", x.put(0x610061L), BAD_VALUE);
        due("put 0 behind", x.put(0x6100L), BAD_VALUE);
        due("put a bit far above", x.put(0x0100000000000061L), BAD_VALUE);
        due("put bad code among good ones", x.put(0x612061L), BAD_VALUE);
        due("put the highest bit", x.put(Long.MIN_VALUE | 'a'), BAD_VALUE);
        due("put eight, first one bad", x.put(0x8061616161616161L), BAD_VALUE);
        due("put -1", x.put(-1L), BAD_VALUE);
        due("put eight", x.put(Checks.number("abcdefgh")), 13);
        due("fault", x.fault(), 3);
        due("wipe", x.wipe(), 13);
        due("count(5)", x.count(5), 0);
        due("no change", x.count(6), 0);

        Checks.write(x, "a=12;[c]=d");
        due("order of characters", x.program(0), 2);
        due("its number", x.ofOrder(0, 0, 4), 12);
        due("its cell", x.ofOrder(0, 1, 1), 2);
        due("its value", x.ofOrder(0, 1, 2), 3);
    }

    private static void padIsBounded() {
        TwinThreads x = new TwinThreads();
        for (int times = 1; times <= 9; times++) {
            due("put eight", x.put(Checks.number("~~~~~~~~")), 8 * times);
        }
        due("put seven", x.put(Checks.number("!!!!!!!")), 79);
        due("put two", x.put(Checks.number("ab")), TOO_MANY);
        due("put bad", x.put(0x6120L), BAD_VALUE);
        due("put one", x.put('a'), 80);
        due("put one more", x.put('a'), TOO_MANY);
        due("put nothing", x.put(0), BAD_VALUE);
        due("count(5)", x.count(5), 80);
        due("wipe", x.wipe(), 80);
        due("put one again", x.put('a'), 1);
    }

    // Promise 5
    private static void faults() {
        String[] whole = {"a=0", "d=99", "a=b+c", "a=a-a", "c=d*b", "a=[d]", "[a]=d", "b?0", "b?99", "a=1;b?7;[a]=b"};
        for (String text : whole) {
            fault(text, NONE);
        }
        String[] early = {"", "a", "a=", "a=b", "a=b+", "a=[", "a=[b", "[", "[a", "[a]", "[a]=", "a?", "a=1;", "a=1;b"};
        for (String text : early) {
            fault(text, text.length());
        }
        // The fault is the last character of each.
        String[] wrong = {"e", "A", ";", "1", "]", "=", "ab", "a;", "a+", "a=;", "a=e", "a=+", "a=]", "a=bb", "a=b;",
            "a=b=", "a=b+;", "a=b+1", "a=b+e", "a=b+cd", "a=b+c+", "a=[1", "a=[]", "a=[b;", "a=[b]]", "a=[b]+", "[1",
            "[]", "[e", "[a=", "[a];", "[a]?", "[a]=1", "[a]=[", "[a]=e", "[a]=b+", "a?b", "a?;", "a?-", "a=00", "a=01",
            "a=100", "a=999", "a=1a", "a=1=", "a?00", "a?100", "a=1;;", "a=1;1", "a=12]", "a=/", "a=:", "a=1:", "a=1/", "a=`", "a=!"};
        for (String text : wrong) {
            fault(text, text.length() - 1);
            fault(text + ";a=1", text.length() - 1);
        }
        fault("a=1;b=2;c?3;x", 12);
    }

    private static void fault(String text, int want) {
        TwinThreads x = new TwinThreads();
        Checks.write(x, text);
        due("fault of " + text, x.fault(), want);
        due("length of " + text, x.count(5), text.length());
        int orders = text.split(";").length;
        due("program of " + text, x.program(0), want == NONE ? orders : BAD_TEXT);
        due("pad behind " + text, x.count(5), want == NONE ? 0 : text.length());
        due("changes behind " + text, x.count(6), want == NONE ? 1 : 0);
    }

    // Promise 6
    private static void programs() {
        TwinThreads x = new TwinThreads();
        due("program(-1)", x.program(-1), NO_SUCH);
        due("program(2)", x.program(2), NO_SUCH);
        due("program of an empty pad", x.program(0), BAD_TEXT);
        Checks.write(x, "a=5;b=6");
        due("program(2) with a good pad", x.program(2), NO_SUCH);
        due("program(1)", x.program(1), 2);
        due("pad emptied", x.count(5), 0);
        due("thread 0 has none", x.ofThread(0, 0), 0);
        due("thread 1 has it", x.ofThread(1, 0), 2);
        Checks.write(x, "c=7");
        due("in place of it", x.program(1), 1);
        due("its last a", x.last(1, 0), 0);
        due("its last c", x.last(1, 2), 7);
        due("no second order", x.ofOrder(1, 1, 0), NO_SUCH);
        due("changes", x.count(6), 2);
    }

    private static void tooManyOrders() {
        TwinThreads x = new TwinThreads();
        Checks.write(x, "a=1;a=2;a=3;a=4;a=5;a=6;a=7;a=8;a=9;a=8;a=7;a=6");
        due("twelve orders", x.program(0), 12);
        due("the twelfth", x.ofOrder(0, 11, 4), 6);
        Checks.write(x, "a=1;a=2;a=3;a=4;a=5;a=6;a=7;a=8;a=9;a=8;a=7;a=6;b=1");
        due("thirteen orders have no fault", x.fault(), NONE);
        due("thirteen orders", x.program(0), TOO_MANY);
        due("thirteen orders, no such thread", x.program(2), NO_SUCH);
        due("pad as it was", x.count(5), 51);
        Checks.write(x, ";c?");
        due("thirteen orders and a fault", x.program(0), BAD_TEXT);
        due("program as it was", x.ofThread(0, 0), 12);
        x.wipe();
        for (int times = 0; times < 10; times++) {
            Checks.write(x, times == 9 ? "a=1;b=22" : "a=1;b=2;");
        }
        due("eighty characters have no fault", x.fault(), NONE);
        due("twenty orders", x.program(1), TOO_MANY);
        x.wipe();
        Checks.write(x, "[a]=b;[a]=b;[a]=b;[a]=b;[a]=b;[a]=b;[a]=b;[a]=b;[a]=b;[a]=b;[a]=b;[a]=b");
        due("twelve long orders", x.program(1), 12);
        due("the length of the thread", x.ofThread(1, 10), 12);
    }

    // Promise 7
    private static void drops() {
        TwinThreads x = Checks.with("a=5;b=6", "c=7");
        x.first(0, 0, 9);
        due("drop(-1)", x.drop(-1), NO_SUCH);
        due("drop(2)", x.drop(2), NO_SUCH);
        due("drop(0)", x.drop(0), 2);
        due("orders", x.ofThread(0, 0), 0);
        due("first value stays", x.last(0, 0), 9);
        due("other program stays", x.last(1, 2), 7);
        due("drop again", x.drop(0), 0);
        due("changes", x.count(6), 5);
        due("undo", x.undo(), 4);
        due("undo", x.undo(), 3);
        due("program is back", x.ofThread(0, 0), 2);
        due("its orders are back", x.ofOrder(0, 1, 4), 6);
    }

    // Promise 8
    private static void firstValues() {
        TwinThreads x = new TwinThreads();
        for (int at = 0; at < 12; at++) {
            due("first", x.first(1, at, 10 + at), 0);
            due("first again", x.first(1, at, 20 + at), 10 + at);
            due("last", x.last(1, at), 20 + at);
            due("last of the other", x.last(0, at), 0);
        }
        due("first 0", x.first(0, 0, 0), 0);
        due("first 999", x.first(0, 11, 999), 0);
        due("first 1000", x.first(0, 0, 1000), BAD_VALUE);
        due("first -1", x.first(0, 0, -1), BAD_VALUE);
        due("first at -1", x.first(0, -1, 5), NO_SUCH);
        due("first at 12", x.first(0, 12, 1000), NO_SUCH);
        due("first of -1", x.first(-1, 0, 5), NO_SUCH);
        due("first of 2", x.first(2, 0, -1), NO_SUCH);
        due("as it was", x.last(0, 11), 999);
    }

    // Promise 9
    private static void exchanges() {
        TwinThreads x = Checks.with("a=b*c;d=a+a", "c=7");
        x.first(0, 4, 44);
        x.first(1, 1, 11);
        due("length", x.count(0), 5);
        // The thread 1 now has the product: starts at 1 and 5 (ready at 4, its turn at 5).
        due("exchange", x.exchange(), 6);
        due("orders 0", x.ofThread(0, 0), 1);
        due("orders 1", x.ofThread(1, 0), 2);
        due("first values 0", x.last(0, 1), 11);
        due("first values 1", x.last(1, 4), 44);
        due("first values 0, cell", x.last(0, 4), 0);
        due("exchange back", x.exchange(), 5);
        due("a change", x.count(6), 6);
        due("first values 0", x.last(0, 4), 44);
        due("undo", x.undo(), 5);
        due("undone", x.last(1, 4), 44);
        due("exchange nothing", new TwinThreads().exchange(), 0);
    }

    // Promise 10
    private static void orders() {
        TwinThreads x = Checks.with("a=42;b=c+d;c=d-a;d=a*b;a=[c];[d]=b;c?17", "d?0");
        int[][] told = {
            {0, 0, NONE, NONE, 42}, {1, 1, 2, 3, NONE}, {2, 2, 3, 0, NONE}, {3, 3, 0, 1, NONE},
            {4, 0, 2, NONE, NONE}, {5, 3, 1, NONE, NONE}, {6, 2, NONE, NONE, 17}};
        for (int order = 0; order < told.length; order++) {
            for (int what = 0; what < 5; what++) {
                due("ofOrder(0, " + order + ", " + what + ")", x.ofOrder(0, order, what), told[order][what]);
            }
            due("what -1", x.ofOrder(0, order, -1), BAD_VALUE);
            due("what 5", x.ofOrder(0, order, 5), BAD_VALUE);
        }
        due("thread 1", x.ofOrder(1, 0, 4), 0);
        due("order 7", x.ofOrder(0, 7, 5), NO_SUCH);
        due("order -1", x.ofOrder(0, -1, 0), NO_SUCH);
        due("order 1 of thread 1", x.ofOrder(1, 1, 0), NO_SUCH);
        due("thread 2", x.ofOrder(2, 0, 9), NO_SUCH);
        due("thread -1", x.ofOrder(-1, 0, 0), NO_SUCH);
    }

    private static void ofThread(String name, TwinThreads x, int thread, int... wants) {
        for (int what = 0; what < wants.length; what++) {
            due(name + ": ofThread(" + thread + ", " + what + ")", x.ofThread(thread, what), wants[what]);
        }
    }

    // Promise 11
    private static void registersAreWaitedFor() {
        TwinThreads read = Checks.with("a=b*c;d=a+a", "");
        ofThread("a register that is read", read, 0, 2, 2, 5, 0, 2, 0, 0, 1, 4, 1, 0);
        TwinThreads second = Checks.with("a=b*c;d=b+a", "");
        ofThread("the second register that is read", second, 0, 2, 2, 5, 0, 2, 0, 0, 1, 4, 1, 0);
        TwinThreads given = Checks.with("a=b*c;a=1", "");
        ofThread("a register that is given", given, 0, 2, 2, 5, 0, 2, 0, 0, 1, 4, 1, 0);
        TwinThreads cell = Checks.with("a=[b];[a]=c", "");
        ofThread("a register that tells a cell", cell, 0, 2, 2, 8, 0, 3, 0, 0, 0, 4, 0, 2);
        TwinThreads told = Checks.with("[a]=b;c=a+b", "");
        ofThread("a cell is no register", told, 0, 2, 2, 4, 0, 0, 0, 0, 1, 2, 0, 1);
        TwinThreads asked = Checks.with("a=[b];a?9", "");
        ofThread("a register that is asked", asked, 0, 2, 2, 5, 0, 3, 0, 0, 0, 4, 0, 1);
        TwinThreads other = Checks.with("a=b*c;b=1;c=2", "");
        ofThread("registers that are ready", other, 0, 3, 3, 5, 0, 0, 0, 0, 2, 4, 1, 0);
        TwinThreads ahead = Checks.with("a?7;b=1", "");
        ofThread("a ? ahead", ahead, 0, 2, 2, 3, 0, 0, 0, 0, 1, 2, 0, 0);
        due("ofThread(2, 0)", read.ofThread(2, 11), NO_SUCH);
        due("ofThread(-1, 0)", read.ofThread(-1, 0), NO_SUCH);
        due("ofThread(0, -1)", read.ofThread(0, -1), BAD_VALUE);
        due("ofThread(0, 11)", read.ofThread(0, 11), BAD_VALUE);
    }

    private static void ownRoomIsWaitedFor() {
        TwinThreads products = Checks.with("a=b*c;d=b*c", "");
        ofThread("own product", products, 0, 2, 2, 7, 0, 0, 2, 0, 1, 4, 2, 0);
        TwinThreads cells = Checks.with("a=[b];[b]=c", "");
        ofThread("own cell", cells, 0, 2, 2, 8, 0, 0, 3, 0, 0, 4, 0, 2);
        TwinThreads later = Checks.with("", "a=b*c;d=b*c");
        ofThread("own product of the thread 1", later, 1, 2, 2, 8, 0, 0, 2, 0, 2, 5, 2, 0);
        TwinThreads both = Checks.with("a=[b];c=d*d", "");
        ofThread("one in each room", both, 0, 2, 2, 5, 0, 0, 0, 0, 1, 2, 1, 1);
        TwinThreads register = Checks.with("a=b*c;d=a*a", "");
        ofThread("a register comes ahead of a room", register, 0, 2, 2, 7, 0, 2, 0, 0, 1, 4, 2, 0);
    }

    private static void otherRoomIsWaitedFor() {
        TwinThreads x = Checks.with("a=b*c", "a=b*c");
        ofThread("first in the room", x, 0, 1, 1, 3, 0, 0, 0, 0, 0, 0, 1, 0);
        // In the tick 0 the room is not yet taken: that is no wait for a room.
        ofThread("second in the room", x, 1, 1, 1, 6, 0, 0, 0, 2, 1, 3, 1, 0);
        x.set(TwinThreads.PRODUCT, 2);
        ofThread("second, room free ahead of its turn", x, 1, 1, 1, 5, 0, 0, 0, 1, 2, 3, 1, 0);
        TwinThreads cells = Checks.with("[a]=b", "c=[d]");
        ofThread("second in the room for cells", cells, 1, 1, 1, 9, 0, 0, 0, 3, 2, 5, 0, 1);
        TwinThreads apart = Checks.with("[a]=b", "c=d*d");
        ofThread("another room", apart, 1, 1, 1, 4, 0, 0, 0, 0, 1, 1, 1, 0);
    }

    private static void stopped() {
        TwinThreads x = Checks.with("a=1;a?0", "");
        ofThread("stopped", x, 0, 2, 100, 199, 1, 0, 0, 0, 99, 198, 0, 0);
        due("step 99", x.ofStep(0, 99, 1), 1);
        due("step 100", x.ofStep(0, 100, 0), NO_SUCH);
        // 50 rounds of two orders end with the hundredth step: done, not stopped.
        TwinThreads y = Checks.with("a=a-b;a?0", "");
        y.first(0, 0, 50);
        y.first(0, 1, 1);
        ofThread("done with step 100", y, 0, 2, 100, 199, 0);
        due("nothing left", y.last(0, 0), 0);
        y.first(0, 0, 51);
        ofThread("one round more", y, 0, 2, 100, 199, 1);
        due("one left", y.last(0, 0), 1);
    }

    // Promise 12
    private static void values() {
        TwinThreads x = Checks.with("a=b+c;d=b-c;[b]=c;c=b*b;b=[a]", "");
        x.first(0, 1, 700);
        x.first(0, 2, 703);
        x.first(0, 4 + 3, 321);
        due("sum left over", x.last(0, 0), 403);
        due("difference below 0", x.last(0, 3), 997);
        due("cell 700 left over by 8", x.last(0, 4 + 4), 703);
        due("product left over", x.last(0, 2), 0);
        due("cell 403 left over by 8", x.last(0, 1), 321);
        due("the cell stays", x.last(0, 4 + 3), 321);
        due("last(0, -1)", x.last(0, -1), NO_SUCH);
        due("last(0, 12)", x.last(0, 12), NO_SUCH);
        due("last(2, 0)", x.last(2, 0), NO_SUCH);
        due("last(-1, 0)", x.last(-1, 0), NO_SUCH);

        TwinThreads y = Checks.with("a=b*c;[d]=a;b=[d];c=b+b", "c=99;[c]=c");
        y.first(0, 1, 998);
        y.first(0, 2, 997);
        due("998 * 997", y.last(0, 0), 6);
        due("given on by a cell", y.last(0, 2), 12);
        due("the other's cells are its own", y.last(0, 4 + 3), 0);
        due("in its cell 3", y.last(1, 4 + 3), 99);
    }

    private static void jumps() {
        TwinThreads taken = Checks.with("a=1;a?3;b=2;c=3", "");
        due("b left out", taken.last(0, 1), 0);
        due("c given", taken.last(0, 2), 3);
        due("three steps", taken.ofThread(0, 1), 3);
        TwinThreads not = Checks.with("b?3;b=2;c=3", "");
        due("b given", not.last(0, 1), 2);
        due("all steps", not.ofThread(0, 1), 3);
        TwinThreads out = Checks.with("a=1;a?4;b=2;c=3", "");
        due("led behind the last order", out.ofThread(0, 1), 2);
        due("is done", out.ofThread(0, 3), 0);
        TwinThreads far = Checks.with("a=1;a?99;b=2", "");
        due("led far away", far.ofThread(0, 1), 2);
        TwinThreads self = Checks.with("a?0;b=2", "");
        due("0 leads on", self.ofThread(0, 1), 2);
        self.first(0, 0, 7);
        due("led to itself", self.ofThread(0, 1), 100);
        due("is stopped", self.ofThread(0, 3), 1);
    }

    // Promise 13
    private static void steps() {
        TwinThreads x = Checks.with("a=1;a?3;b=2;c=a*a;d=c+c", "b=1;c=1");
        int[][] told = {{0, 0, 1, 0}, {2, 1, 3, 1}, {4, 3, 7, 1}, {8, 4, 9, 3}};
        for (int step = 0; step < told.length; step++) {
            for (int what = 0; what < 4; what++) {
                due("ofStep(0, " + step + ", " + what + ")", x.ofStep(0, step, what), told[step][what]);
            }
        }
        due("first step waits since the tick 0", x.ofStep(1, 0, 3), 1);
        due("its start", x.ofStep(1, 0, 0), 1);
        due("step 4", x.ofStep(0, 4, 0), NO_SUCH);
        due("step 4, what 4", x.ofStep(0, 4, 4), NO_SUCH);
        due("step -1", x.ofStep(0, -1, 0), NO_SUCH);
        due("thread 2", x.ofStep(2, 0, 0), NO_SUCH);
        due("thread -1", x.ofStep(-1, 0, 0), NO_SUCH);
        due("what 4", x.ofStep(0, 0, 4), BAD_VALUE);
        due("what -1", x.ofStep(0, 0, -1), BAD_VALUE);
    }

    private static void starts(String name, TwinThreads x, int... wants) {
        for (int tick = 0; tick < wants.length; tick++) {
            due(name + ": at(" + tick + ", 0)", x.at(tick, 0), wants[tick]);
        }
    }

    // Running by TURNS 1 and 2
    private static void lentTurns() {
        TwinThreads x = Checks.with("a=1;b=1;c=1;d=1", "a=b*c;d=a+a;b=1");
        starts("strict", x, 0, 1, 0, NONE, 0, 1, 0, 1, NONE);
        x.set(TwinThreads.TURNS, 1);
        starts("lent", x, 0, 1, 0, 0, 0, 1, 1, NONE);
        ofThread("lent", x, 1, 3, 3, 7, 0, 2, 0, 0, 2, 6, 1, 0);
    }

    private static void fairTurns() {
        TwinThreads x = Checks.with("a=1;b=1;c=1;d=1", "a=b*c;d=a+a;b=1");
        x.set(TwinThreads.TURNS, 2);
        // In the tick 4 the thread 1 started longer ago, whosesoever turn it is; in 5 the thread 0.
        starts("fair", x, 0, 1, 0, 0, 1, 0, 1, NONE);
        ofThread("fair", x, 1, 3, 3, 7, 0, 2, 0, 0, 2, 6, 1, 0);
        ofThread("fair", x, 0, 4, 4, 6, 0, 0, 0, 0, 2, 5, 0, 0);
    }

    private static void fairTurnsForOneThatHasNotStarted() {
        TwinThreads x = Checks.with("a=b*c;d=1;d=2;d=3;d=4", "a=b*c;b=1");
        x.set(TwinThreads.PRODUCT, 4);
        x.set(TwinThreads.TURNS, 2);
        starts("none started", x, 0, 0, 0, 0, 1, 0, 1, NONE);
        ofThread("none started", x, 1, 2, 2, 8, 0, 0, 0, 3, 2, 6, 1, 0);
        TwinThreads y = Checks.with("a=1", "a=1");
        y.set(TwinThreads.TURNS, 2);
        starts("alike", y, 0, 1, NONE);
    }

    private static void lengthBehindTheLastStep() {
        TwinThreads x = Checks.with("a=b*c;d=1", "");
        x.set(TwinThreads.PRODUCT, 9);
        due("the product ends last", x.ofThread(0, 2), 9);
        due("the run too", x.count(0), 9);
        due("waits only ahead of the last start", x.ofThread(0, 7), 1);
        due("none is in the room then", x.at(9, 1), NONE);
        due("still in the room", x.at(8, 1), 0);
    }

    // Promise 14
    private static void ticks() {
        TwinThreads x = Checks.with("a=b*c;[a]=d", "a=b*c");
        x.set(TwinThreads.TURNS, 1);
        // 0: the product of 0 to 3; 3: the product of 1 to 6; 4: the cell of 0 to 8.
        int[] starters = {0, NONE, NONE, 1, 0, NONE, NONE, NONE, NONE};
        int[] products = {0, 0, 0, 1, 1, 1, NONE, NONE, NONE};
        int[] cells = {NONE, NONE, NONE, NONE, 0, 0, 0, 0, NONE};
        for (int tick = 0; tick < starters.length; tick++) {
            due("at(" + tick + ", 0)", x.at(tick, 0), starters[tick]);
            due("at(" + tick + ", 1)", x.at(tick, 1), products[tick]);
            due("at(" + tick + ", 2)", x.at(tick, 2), cells[tick]);
        }
        due("at(-1, 0)", x.at(-1, 0), BAD_VALUE);
        due("at(MIN, 2)", x.at(Integer.MIN_VALUE, 2), BAD_VALUE);
        due("at(0, -1)", x.at(0, -1), BAD_VALUE);
        due("at(0, 3)", x.at(0, 3), BAD_VALUE);
        due("at(MAX, 3)", x.at(Integer.MAX_VALUE, 3), BAD_VALUE);
        for (int what = 0; what < 3; what++) {
            due("at(MAX, " + what + ")", x.at(Integer.MAX_VALUE, what), NONE);
        }
    }

    // Promise 15
    private static void counts() {
        TwinThreads x = Checks.with("a=b*c;[a]=d", "a=b*c");
        x.set(TwinThreads.TURNS, 1);
        x.set(TwinThreads.PRODUCT, 2);
        x.set(TwinThreads.CELL, 5);
        Checks.write(x, "a=b*");
        // 0: the product of 0 to 2; 2: the cell of 0 to 7; 3: the product of 1 to 5.
        int[] wants = {7, 3, 4, 4, 5, 4, 5, 1, 2, 5};
        for (int what = 0; what < wants.length; what++) {
            due("count(" + what + ")", x.count(what), wants[what]);
        }
        due("count(-1)", x.count(-1), BAD_VALUE);
        due("count(10)", x.count(10), BAD_VALUE);
    }

    // Promises 16 to 18
    private static void aloneAndTurns() {
        TwinThreads x = Checks.with("a=1;b=1;c=1;d=1", "a=b*c;d=a+a;b=1");
        due("alone(0)", x.alone(0), 7);
        due("alone(1)", x.alone(1), 8);
        due("alone(2)", x.alone(2), NO_SUCH);
        due("alone(-1)", x.alone(-1), NO_SUCH);
        int[] lengths = {8, 7, 7};
        for (int turns = 0; turns < 3; turns++) {
            due("lengthWith(" + turns + ")", x.lengthWith(turns), lengths[turns]);
        }
        due("lengthWith(-1)", x.lengthWith(-1), BAD_VALUE);
        due("lengthWith(3)", x.lengthWith(3), BAD_VALUE);
        due("the lower one of two", x.bestTurns(), 1);
        x.set(TwinThreads.TURNS, 2);
        due("alone(0), fair", x.alone(0), 4);
        due("alone(1), fair", x.alone(1), 5);
        due("not the one that is set", x.bestTurns(), 1);
        due("nothing has changed", x.count(0), 7);
        due("no change is recorded", x.count(6), 3);

        // Where it has its turn, the thread 0 keeps the room in the tick 2; by TURNS 2 the thread 1 gets it.
        TwinThreads y = Checks.with("a=b*c;a=b*c", "a=b*c;c=[d]");
        y.set(TwinThreads.PRODUCT, 2);
        y.set(TwinThreads.CELL, 9);
        int[] others = {16, 14, 12};
        for (int turns = 0; turns < 3; turns++) {
            due("lengthWith(" + turns + ")", y.lengthWith(turns), others[turns]);
        }
        due("the third is the best", y.bestTurns(), 2);
        due("the first one is set", y.count(0), 16);
    }

    // Promise 19
    private static void withoutRooms() {
        TwinThreads x = Checks.with("a=b*c;d=b*c", "a=b*c");
        // 0: a product to 3; the room: 1 at 3, then 0 at 6. Without it: 0 and 2, and 1 at 1.
        due("with the room", x.count(0), 9);
        due("lengthWithout(0)", x.lengthWithout(0), 5);
        due("lengthWithout(1)", x.lengthWithout(1), 9);
        TwinThreads y = Checks.with("a=[b];[c]=d", "");
        due("lengthWithout(0), cells", y.lengthWithout(0), 8);
        due("lengthWithout(1), cells", y.lengthWithout(1), 6);
        TwinThreads z = Checks.with("a=[b];[a]=d", "");
        due("registers are waited for all the same", z.lengthWithout(1), 8);
        due("lengthWithout(-1)", x.lengthWithout(-1), BAD_VALUE);
        due("lengthWithout(2)", x.lengthWithout(2), BAD_VALUE);
        due("nothing has changed", x.count(0), 9);
    }

    /** By a first value of 7 in a, "a=b*c;d=a+a" leaves other values if it is exchanged; "b?n" and "c?n" lead on. */
    private static TwinThreads withSeven(String program0, String program1) {
        TwinThreads x = Checks.with(program0, program1);
        x.first(0, 0, 7);
        return x;
    }

    // Promise 20
    private static void bestExchanges() {
        // a=b*c 0 to 3, d=a+a 4 to 5, c=2 6 to 7. The orders 1 and 2 exchanged: 0, 2 and 4, to 5.
        TwinThreads x = withSeven("a=b*c;d=a+a;c=2", "");
        due("length", x.count(0), 7);
        due("bestExchange(0, 0)", x.bestExchange(0, 0), 1);
        due("bestExchange(0, 1)", x.bestExchange(0, 1), 5);
        due("bestExchange(1, 0)", x.bestExchange(1, 0), NONE);
        due("bestExchange(1, 1)", x.bestExchange(1, 1), NONE);
        due("bestExchange(0, 2)", x.bestExchange(0, 2), BAD_VALUE);
        due("bestExchange(0, -1)", x.bestExchange(0, -1), BAD_VALUE);
        due("bestExchange(2, 2)", x.bestExchange(2, 2), NO_SUCH);
        due("bestExchange(-1, 0)", x.bestExchange(-1, 0), NO_SUCH);
        due("nothing has changed", x.ofOrder(0, 1, 0), 1);
        due("no change is recorded", x.count(6), 2);
        x.exchange();
        due("bestExchange(1, 0)", x.bestExchange(1, 0), 1);
        due("bestExchange(1, 1)", x.bestExchange(1, 1), 6);

        // Two that help alike: of several the first ones.
        TwinThreads y = withSeven("a=b*c;d=a+a;c=2;c=a*a;b=c+c;a=2", "");
        due("length of two", y.count(0), 15);
        due("the first of two", y.bestExchange(0, 0), 1);
        due("its length", y.bestExchange(0, 1), 13);

        // The orders 1 and 2, or 2 and 3, win one tick; 4 and 5 win three.
        TwinThreads w = withSeven("a=b*c;d=a+a;c=2;b=d*d;a=d*d;c=[d]", "");
        w.set(TwinThreads.TURNS, 1);
        w.set(TwinThreads.CELL, 9);
        due("length of two unlike ones", w.count(0), 18);
        due("helps most", w.bestExchange(0, 0), 4);
        due("its length", w.bestExchange(0, 1), 15);

        // The other thread's run is longer: nothing gets shorter.
        TwinThreads z = withSeven("a=b*c;d=a+a;c=2", "a=[b];c=[b];d=[b]");
        due("the other is longer", z.bestExchange(0, 0), NONE);
    }

    private static void noExchangeAroundQuestions() {
        String orders = "a=b*c;d=a+a;c=2";
        due("a ? leads to the first", withSeven(orders + ";b?1", "").bestExchange(0, 0), NONE);
        due("a ? leads to the second", withSeven(orders + ";b?2", "").bestExchange(0, 0), NONE);
        due("a ? leads ahead of both", withSeven(orders + ";b?0", "").bestExchange(0, 0), 1);
        due("a ? leads behind both", withSeven(orders + ";b?3", "").bestExchange(0, 0), 1);
        due("the first order leads there", withSeven("b?2;" + orders, "").bestExchange(0, 0), NONE);
        due("a ? that is never asked leads there", withSeven(orders + ";c?9;b?1", "").bestExchange(0, 0), NONE);
        due("a ? of the other one leads there", withSeven(orders, "a?1").bestExchange(0, 0), 1);
        due("behind a ?", withSeven("b?9;" + orders, "").bestExchange(0, 0), 2);
        TwinThreads x = withSeven("a=b*c;b?9;d=a+a;c=2", "");
        x.set(TwinThreads.PRODUCT, 9);
        due("just behind a ?", x.bestExchange(0, 0), 2);
        // Ahead of the "?" b=3 could start while the product is on its way; a "?" is never exchanged.
        due("one is a ?", withSeven("a=b*c;a?9;d=3", "").bestExchange(0, 0), NONE);
    }

    private static void noExchangeOfOtherValues() {
        TwinThreads x = withSeven("a=b*c;d=a+a;a=2", "");
        due("a is read ahead of a=2", x.bestExchange(0, 0), NONE);
        due("the last d counts", withSeven("a=b*c;d=a+a;d=2;c?0", "").bestExchange(0, 0), NONE);
        due("the last b counts", withSeven("a=b*c;d=a+a;b=2;c?0", "").bestExchange(0, 0), 1);
        due("a cell counts", withSeven("a=b*c;[a]=a;a=2", "").bestExchange(0, 0), NONE);
        TwinThreads z = Checks.with("b=c*c;a=b+b;d=2", "");
        z.first(0, 1, 7);
        due("a counts", z.bestExchange(0, 0), 1);
        TwinThreads y = Checks.with("a=b*c;d=a+a;c=2", "");
        due("by the values of this run they are the same", y.bestExchange(0, 0), 0);
    }

    // Promise 21
    private static void undoing() {
        TwinThreads x = new TwinThreads();
        for (int value = 1; value <= 8; value++) {
            x.first(0, 0, value);
            due("count(6)", x.count(6), Math.min(value, 6));
        }
        for (int left = 5; left >= 0; left--) {
            due("undo", x.undo(), left);
            due("undone", x.last(0, 0), left + 2);
        }
        due("undo too far", x.undo(), NOT_POSSIBLE);
        due("as it was", x.last(0, 0), 2);
        x.first(0, 0, 77);
        due("undo once more", x.undo(), 0);
        due("undone", x.last(0, 0), 2);

        TwinThreads y = Checks.with("a=1", "b=2");
        y.set(0, 2);
        y.set(0, 2);
        due("alike is recorded too", y.count(6), 4);
        y.drop(0);
        y.exchange();
        due("undo exchange", y.undo(), 5);
        due("program 1", y.ofThread(1, 0), 1);
        due("undo drop", y.undo(), 4);
        due("program 0", y.ofThread(0, 0), 1);
        due("undo set", y.undo(), 3);
        due("undo set", y.undo(), 2);
        due("setting", y.count(7), 0);
        Checks.write(y, "a=");
        due("undo program", y.undo(), 1);
        due("program 1 is gone", y.ofThread(1, 0), 0);
        due("the pad is not undone", y.count(5), 2);
        due("undo program", y.undo(), 0);
        due("program 0 is gone", y.ofThread(0, 0), 0);
    }

    // Promises 22 and 23
    private static void saving() {
        TwinThreads x = Checks.with("a=b*c;d=a+a", "");
        x.set(TwinThreads.PRODUCT, 5);
        x.first(0, 1, 3);
        due("save(2)", x.save(2), BAD_VALUE);
        due("save(-1)", x.save(-1), BAD_VALUE);
        due("restore(2)", x.restore(2), BAD_VALUE);
        due("restore(-1)", x.restore(-1), BAD_VALUE);
        due("restore(1)", x.restore(1), NOT_POSSIBLE);
        due("save(1)", x.save(1), 7);
        due("saving is no change", x.count(6), 3);
        due("restore(0)", x.restore(0), NOT_POSSIBLE);
        x.set(TwinThreads.PRODUCT, 1);
        x.first(0, 1, 4);
        x.drop(0);
        due("save(0)", x.save(0), 0);
        due("restore(1)", x.restore(1), 7);
        due("setting", x.count(8), 5);
        due("first value", x.last(0, 1), 3);
        due("program", x.ofThread(0, 0), 2);
        due("a change", x.count(6), 6);
        x.drop(0);
        x.first(0, 1, 9);
        due("the slot keeps it", x.restore(1), 7);
        due("first value", x.last(0, 1), 3);
        due("undo restore", x.undo(), 5);
        due("first value", x.last(0, 1), 9);
        due("save(1) again", x.save(1), 0);
        due("undo", x.undo(), 4);
        due("undo", x.undo(), 3);
        due("slots are not undone", x.restore(1), 0);
        due("what was saved last", x.last(0, 1), 9);
        due("the other slot", x.restore(0), 0);
        due("its value", x.last(0, 1), 4);
    }

    private static void errorsChangeNothing() {
        TwinThreads x = Checks.with("a=b*c;d=a+a;c=2", "a=[b]");
        Checks.write(x, "a=b");
        x.set(9, 9);
        x.put(0);
        x.program(0);
        x.program(7);
        x.drop(5);
        x.first(0, 0, 5000);
        x.restore(0);
        x.save(9);
        due("changes", x.count(6), 2);
        due("pad", x.count(5), 3);
        due("length", x.count(0), 7);
        due("program", x.ofThread(0, 0), 3);
    }
}
