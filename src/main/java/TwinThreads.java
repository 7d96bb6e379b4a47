/** Two threads that share one machine by odd and even turns. */
public final class TwinThreads {
    public static final int NO_SUCH = -1, BAD_VALUE = -2, BAD_TEXT = -3, TOO_MANY = -4, NOT_POSSIBLE = -5, NONE = -6;
    public static final int TURNS = 0, PRODUCT = 1, CELL = 2;

    private static final int THREADS = 2;
    private static final int REGISTERS = 4;
    private static final int CELLS = 8;
    private static final int VALUES = 12;
    private static final int VALUE_LIMIT = 1000;
    private static final int MAX_ORDERS = 12;
    private static final int MAX_STEPS = 100;
    private static final int MAX_PAD = 80;
    private static final int MAX_CHANGES = 6;
    private static final int SLOTS = 2;

    private static final int SETTINGS = 3;
    private static final int[] LOWEST = {0, 1, 1};
    private static final int[] HIGHEST = {2, 9, 9};
    private static final int STRICT_TURNS = 0, FAIR_TURNS = 2;

    private static final int ROOMS = 2;
    private static final int PRODUCT_ROOM = 0, CELL_ROOM = 1;

    /** What is told of an order, as the document numbers it. */
    private static final int KIND = 0, INTO = 1, LEFT = 2, RIGHT = 3, NUMBER = 4;
    private static final int COLUMNS = 5;

    /** The kinds of orders, as the document numbers them. */
    private static final int TAKE_NUMBER = 0, ADD = 1, SUBTRACT = 2, MULTIPLY = 3;
    private static final int LOAD_CELL = 4, STORE_CELL = 5, JUMP = 6;

    /** What keeps a step from its start: nothing, the reasons 1 to 4 of the document, or that there is no step. */
    private static final int FREE = 0, REGISTER = 1, OWN_ROOM = 2, OTHER_ROOM = 3, TURN = 4, NO_STEP = 5;
    private static final int REASONS = 5;

    /**
     * Behind a start all rooms and registers are free after 9 ticks, and a turn comes one tick later at most:
     * 200 steps need some 2010 ticks.
     */
    private static final int MAX_TICKS = 4096;

    private final State now;
    private final Run run;
    private final State trial;
    private final Run trialRun;
    private final Pad pad;
    private final Reader reader;
    private final History history;
    private final State[] slots;
    private final boolean[] saved;

    public TwinThreads() {
        now = new State();
        run = new Run(now);
        trial = new State();
        trialRun = new Run(trial);
        pad = new Pad();
        reader = new Reader(pad);
        history = new History();
        slots = new State[SLOTS];
        for (int slot = 0; slot < SLOTS; slot++) {
            slots[slot] = new State();
        }
        saved = new boolean[SLOTS];
    }

    // ---- settings, programs, first values

    public int set(int setting, int value) {
        if (setting < 0 || setting >= SETTINGS || value < LOWEST[setting] || value > HIGHEST[setting]) {
            return BAD_VALUE;
        }
        int previous = now.settings[setting];
        history.record(now);
        now.settings[setting] = value;
        run.play(NONE);
        return previous;
    }

    public int put(long characters) {
        int added = Pad.charactersIn(characters);
        if (added == 0) {
            return BAD_VALUE;
        }
        if (pad.length + added > MAX_PAD) {
            return TOO_MANY;
        }
        pad.append(characters, added);
        return pad.length;
    }

    public int wipe() {
        int length = pad.length;
        pad.length = 0;
        return length;
    }

    public int fault() {
        return reader.read();
    }

    public int program(int thread) {
        if (!isThread(thread)) {
            return NO_SUCH;
        }
        if (reader.read() != NONE) {
            return BAD_TEXT;
        }
        if (reader.orders > MAX_ORDERS) {
            return TOO_MANY;
        }
        history.record(now);
        now.programs[thread].copyFrom(reader.program);
        pad.length = 0;
        run.play(NONE);
        return now.programs[thread].size;
    }

    public int drop(int thread) {
        if (!isThread(thread)) {
            return NO_SUCH;
        }
        int size = now.programs[thread].size;
        history.record(now);
        now.programs[thread].size = 0;
        run.play(NONE);
        return size;
    }

    public int first(int thread, int at, int value) {
        if (!isThread(thread) || at < 0 || at >= VALUES) {
            return NO_SUCH;
        }
        if (value < 0 || value >= VALUE_LIMIT) {
            return BAD_VALUE;
        }
        int previous = now.firstValues[thread][at];
        history.record(now);
        now.firstValues[thread][at] = value;
        run.play(NONE);
        return previous;
    }

    public int exchange() {
        history.record(now);
        now.exchangeThreads();
        run.play(NONE);
        return run.length();
    }

    // ---- what is told of programs

    public int ofOrder(int thread, int order, int what) {
        if (!isThread(thread) || order < 0 || order >= now.programs[thread].size) {
            return NO_SUCH;
        }
        if (what < 0 || what >= COLUMNS) {
            return BAD_VALUE;
        }
        return now.programs[thread].told(order, what);
    }

    // ---- the run

    public int ofThread(int thread, int what) {
        if (!isThread(thread)) {
            return NO_SUCH;
        }
        switch (what) {
            case 0:
                return now.programs[thread].size;
            case 1:
                return run.started[thread];
            case 2:
                return run.lengths[thread];
            case 3:
                return run.paths[thread].stopped ? 1 : 0;
            case 4:
                return run.waits[thread][REGISTER];
            case 5:
                return run.waits[thread][OWN_ROOM];
            case 6:
                return run.waits[thread][OTHER_ROOM];
            case 7:
                return run.waits[thread][TURN];
            case 8:
                return run.latestStart(thread);
            case 9:
                return run.stepsIn(thread, PRODUCT_ROOM);
            case 10:
                return run.stepsIn(thread, CELL_ROOM);
            default:
                return BAD_VALUE;
        }
    }

    public int last(int thread, int at) {
        if (!isThread(thread) || at < 0 || at >= VALUES) {
            return NO_SUCH;
        }
        return run.paths[thread].values[at];
    }

    public int ofStep(int thread, int step, int what) {
        if (!isThread(thread) || step < 0 || step >= run.started[thread]) {
            return NO_SUCH;
        }
        switch (what) {
            case 0:
                return run.starts[thread][step];
            case 1:
                return run.paths[thread].orders[step];
            case 2:
                return run.ends[thread][step];
            case 3:
                return run.waitAhead(thread, step);
            default:
                return BAD_VALUE;
        }
    }

    public int at(int tick, int what) {
        if (tick < 0) {
            return BAD_VALUE;
        }
        switch (what) {
            case 0:
                return run.starterIn(tick);
            case 1:
                return run.userIn(tick, PRODUCT_ROOM);
            case 2:
                return run.userIn(tick, CELL_ROOM);
            default:
                return BAD_VALUE;
        }
    }

    public int count(int what) {
        switch (what) {
            case 0:
                return run.length();
            case 1:
                return run.started[0] + run.started[1];
            case 2:
                return run.length() - run.started[0] - run.started[1];
            case 3:
                return run.ticksIn(PRODUCT_ROOM);
            case 4:
                return run.ticksIn(CELL_ROOM);
            case 5:
                return pad.length;
            case 6:
                return history.size;
            case 7:
                return now.settings[TURNS];
            case 8:
                return now.settings[PRODUCT];
            case 9:
                return now.settings[CELL];
            default:
                return BAD_VALUE;
        }
    }

    // ---- what if; nothing changes

    public int alone(int thread) {
        if (!isThread(thread)) {
            return NO_SUCH;
        }
        trial.copyFrom(now);
        trial.programs[1 - thread].size = 0;
        trialRun.play(NONE);
        return trialRun.length();
    }

    public int lengthWith(int turns) {
        if (turns < LOWEST[TURNS] || turns > HIGHEST[TURNS]) {
            return BAD_VALUE;
        }
        return lengthByTurns(turns);
    }

    public int bestTurns() {
        int best = LOWEST[TURNS];
        int shortest = lengthByTurns(best);
        for (int turns = best + 1; turns <= HIGHEST[TURNS]; turns++) {
            int length = lengthByTurns(turns);
            if (length < shortest) {
                best = turns;
                shortest = length;
            }
        }
        return best;
    }

    private int lengthByTurns(int turns) {
        trial.copyFrom(now);
        trial.settings[TURNS] = turns;
        trialRun.play(NONE);
        return trialRun.length();
    }

    public int lengthWithout(int room) {
        if (room != PRODUCT_ROOM && room != CELL_ROOM) {
            return BAD_VALUE;
        }
        trial.copyFrom(now);
        trialRun.play(room);
        return trialRun.length();
    }

    public int bestExchange(int thread, int what) {
        if (!isThread(thread)) {
            return NO_SUCH;
        }
        if (what != 0 && what != 1) {
            return BAD_VALUE;
        }
        Program program = now.programs[thread];
        int best = NONE;
        int shortest = run.length();
        for (int order = 0; order + 1 < program.size; order++) {
            if (program.mayMove(order) && program.mayMove(order + 1)) {
                int length = lengthExchanged(thread, order);
                if (length != NONE && length < shortest) {
                    best = order;
                    shortest = length;
                }
            }
        }
        if (best == NONE) {
            return NONE;
        }
        return what == 0 ? best : shortest;
    }

    /** The length of the run with this order and the next one exchanged, NONE if the values behind it were others. */
    private int lengthExchanged(int thread, int order) {
        trial.copyFrom(now);
        trial.programs[thread].exchangeWithNext(order);
        trialRun.follow();
        if (!trialRun.paths[thread].sameValues(run.paths[thread])) {
            return NONE;
        }
        trialRun.schedule(NONE);
        return trialRun.length();
    }

    // ---- undo, saving

    public int undo() {
        if (history.size == 0) {
            return NOT_POSSIBLE;
        }
        history.takeBack(now);
        run.play(NONE);
        return history.size;
    }

    public int save(int slot) {
        if (slot < 0 || slot >= SLOTS) {
            return BAD_VALUE;
        }
        slots[slot].copyFrom(now);
        saved[slot] = true;
        return run.length();
    }

    public int restore(int slot) {
        if (slot < 0 || slot >= SLOTS) {
            return BAD_VALUE;
        }
        if (!saved[slot]) {
            return NOT_POSSIBLE;
        }
        history.record(now);
        now.copyFrom(slots[slot]);
        run.play(NONE);
        return run.length();
    }

    private static boolean isThread(int thread) {
        return thread >= 0 && thread < THREADS;
    }

    /** The orders of a thread. */
    private static final class Program {
        int size;
        private final int[] table = new int[MAX_ORDERS * COLUMNS];

        int told(int order, int column) {
            if (order < 0 || order >= size || column < 0 || column >= COLUMNS) {
                return NONE;
            }
            return table[order * COLUMNS + column];
        }

        /** An order behind the last place is left out: the reader counts them all, and more than fit are refused there. */
        void add(int kind, int into, int left, int right, int number) {
            if (size < 0 || size >= MAX_ORDERS) {
                return;
            }
            int start = size * COLUMNS;
            table[start + KIND] = kind;
            table[start + INTO] = into;
            table[start + LEFT] = left;
            table[start + RIGHT] = right;
            table[start + NUMBER] = number;
            size++;
        }

        void copyFrom(Program other) {
            size = other.size;
            System.arraycopy(other.table, 0, table, 0, MAX_ORDERS * COLUMNS);
        }

        void exchangeWithNext(int order) {
            if (order < 0 || order + 1 >= size) {
                return;
            }
            int start = order * COLUMNS;
            for (int column = 0; column < COLUMNS; column++) {
                int held = table[start + column];
                table[start + column] = table[start + COLUMNS + column];
                table[start + COLUMNS + column] = held;
            }
        }

        /** Whether an order may be exchanged at all: it is no "?", and no "?" leads to it. */
        boolean mayMove(int order) {
            if (told(order, KIND) == JUMP) {
                return false;
            }
            for (int asking = 0; asking < size; asking++) {
                if (told(asking, KIND) == JUMP && told(asking, NUMBER) == order) {
                    return false;
                }
            }
            return true;
        }

        /** The room that an order takes, NONE if it takes none. */
        int roomOf(int order) {
            switch (told(order, KIND)) {
                case MULTIPLY:
                    return PRODUCT_ROOM;
                case LOAD_CELL:
                case STORE_CELL:
                    return CELL_ROOM;
                default:
                    return NONE;
            }
        }

        /** The register that gets its value by an order, NONE if none does. */
        int givenBy(int order) {
            int kind = told(order, KIND);
            return kind == STORE_CELL || kind == JUMP ? NONE : told(order, INTO);
        }
    }

    /** The text from which programs are read. */
    private static final class Pad {
        int length;
        private final char[] text = new char[MAX_PAD];

        /** How many characters the number holds, 0 if it is not one of characters. */
        static int charactersIn(long characters) {
            long rest = characters;
            int found = 0;
            while (found < 8 && (rest & 255) != 0) {
                long code = rest & 255;
                if (code < 33 || code > 126) {
                    return 0;
                }
                rest >>>= 8;
                found++;
            }
            return rest == 0 ? found : 0;
        }

        void append(long characters, int added) {
            for (int behind = added - 1; behind >= 0 && length < MAX_PAD; behind--) {
                text[length] = (char) (characters >>> (8 * behind) & 255);
                length++;
            }
        }

        /** The character at an index, 0 (which the pad never holds) where the text has none. */
        char charAt(int index) {
            return index >= 0 && index < length && index < MAX_PAD ? text[index] : (char) 0;
        }
    }

    /** Reads the pad; where it can't read on, its index is the fault, be it a character's or the end's. */
    private static final class Reader {
        final Program program = new Program();
        int orders;
        private final Pad pad;
        private int index;

        Reader(Pad pad) {
            this.pad = pad;
        }

        /** Reads the pad as a program, and returns its fault. */
        int read() {
            program.size = 0;
            orders = 0;
            index = 0;
            for (int separators = 0; separators <= MAX_PAD; separators++) {
                if (!readOrder()) {
                    return index;
                }
                orders++;
                if (index == pad.length) {
                    return NONE;
                }
                if (!take(';')) {
                    return index;
                }
            }
            return index;
        }

        private boolean readOrder() {
            if (take('[')) {
                return readStore();
            }
            int register = takeRegister();
            if (register == NONE) {
                return false;
            }
            if (take('?')) {
                return readNumber(JUMP, register);
            }
            return take('=') && readGiven(register);
        }

        private boolean readStore() {
            int cell = takeRegister();
            if (cell == NONE || !take(']') || !take('=')) {
                return false;
            }
            int value = takeRegister();
            if (value == NONE) {
                return false;
            }
            program.add(STORE_CELL, cell, value, NONE, NONE);
            return true;
        }

        private boolean readGiven(int into) {
            if (take('[')) {
                return readLoad(into);
            }
            int left = takeRegister();
            if (left == NONE) {
                return readNumber(TAKE_NUMBER, into);
            }
            int kind = takeSign();
            if (kind == NONE) {
                return false;
            }
            int right = takeRegister();
            if (right == NONE) {
                return false;
            }
            program.add(kind, into, left, right, NONE);
            return true;
        }

        private boolean readLoad(int into) {
            int cell = takeRegister();
            if (cell == NONE || !take(']')) {
                return false;
            }
            program.add(LOAD_CELL, into, cell, NONE, NONE);
            return true;
        }

        private boolean readNumber(int kind, int register) {
            int number = takeFrom('0', 10);
            if (number == NONE) {
                return false;
            }
            // A digit behind a leading zero or behind two digits is left to be the fault.
            if (number > 0) {
                int digit = takeFrom('0', 10);
                number = digit == NONE ? number : number * 10 + digit;
            }
            program.add(kind, register, NONE, NONE, number);
            return true;
        }

        private boolean take(char wanted) {
            if (pad.charAt(index) != wanted) {
                return false;
            }
            index++;
            return true;
        }

        private int takeRegister() {
            return takeFrom('a', REGISTERS);
        }

        /** How far the next character is behind the lowest one; NONE, and it stays, if it is none of so many. */
        private int takeFrom(char lowest, int many) {
            int offset = pad.charAt(index) - lowest;
            if (offset < 0 || offset >= many) {
                return NONE;
            }
            index++;
            return offset;
        }

        private int takeSign() {
            if (take('+')) {
                return ADD;
            }
            if (take('-')) {
                return SUBTRACT;
            }
            return take('*') ? MULTIPLY : NONE;
        }
    }

    /** Settings, programs and first values: all that undo and the slots keep. */
    private static final class State {
        final int[] settings = {0, 3, 4};
        final Program[] programs = {new Program(), new Program()};
        final int[][] firstValues = new int[THREADS][VALUES];

        void copyFrom(State other) {
            System.arraycopy(other.settings, 0, settings, 0, SETTINGS);
            for (int thread = 0; thread < THREADS; thread++) {
                programs[thread].copyFrom(other.programs[thread]);
                System.arraycopy(other.firstValues[thread], 0, firstValues[thread], 0, VALUES);
            }
        }

        void exchangeThreads() {
            Program program = programs[0];
            programs[0] = programs[1];
            programs[1] = program;
            int[] values = firstValues[0];
            firstValues[0] = firstValues[1];
            firstValues[1] = values;
        }

        /** How many ticks a step takes that is in a room, or in none. */
        int ticksFor(int room) {
            if (room == PRODUCT_ROOM) {
                return settings[PRODUCT];
            }
            return room == CELL_ROOM ? settings[CELL] : 1;
        }
    }

    /** The states ahead of the latest changes, in a ring. */
    private static final class History {
        int size;
        private int oldest;
        private final State[] states = new State[MAX_CHANGES];

        History() {
            for (int place = 0; place < MAX_CHANGES; place++) {
                states[place] = new State();
            }
        }

        void record(State state) {
            states[(oldest + size) % MAX_CHANGES].copyFrom(state);
            if (size < MAX_CHANGES) {
                size++;
            } else {
                oldest = (oldest + 1) % MAX_CHANGES;
            }
        }

        void takeBack(State state) {
            if (size == 0) {
                return;
            }
            size--;
            state.copyFrom(states[(oldest + size) % MAX_CHANGES]);
        }
    }

    /** The steps of a thread and what they leave: turns and rooms don't matter here, as the threads share time alone. */
    private static final class Path {
        int steps;
        boolean stopped;
        final int[] orders = new int[MAX_STEPS];
        final int[] values = new int[VALUES];

        void follow(Program program, int[] firstValues) {
            System.arraycopy(firstValues, 0, values, 0, VALUES);
            steps = 0;
            int order = 0;
            while (steps < MAX_STEPS && order < program.size) {
                orders[steps] = order;
                steps++;
                order = stepOver(program, order);
            }
            stopped = order < program.size;
        }

        boolean sameValues(Path other) {
            for (int place = 0; place < VALUES; place++) {
                if (values[place] != other.values[place]) {
                    return false;
                }
            }
            return true;
        }

        /** Does an order, and returns the one behind it. */
        private int stepOver(Program program, int order) {
            int into = program.told(order, INTO);
            int left = valueOf(program.told(order, LEFT));
            int right = valueOf(program.told(order, RIGHT));
            int number = program.told(order, NUMBER);
            switch (program.told(order, KIND)) {
                case TAKE_NUMBER:
                    give(into, number);
                    break;
                case ADD:
                    give(into, left + right);
                    break;
                case SUBTRACT:
                    give(into, left - right);
                    break;
                case MULTIPLY:
                    give(into, left * right);
                    break;
                case LOAD_CELL:
                    give(into, values[placeOfCell(left)]);
                    break;
                case STORE_CELL:
                    values[placeOfCell(valueOf(into))] = left;
                    break;
                case JUMP:
                    return valueOf(into) != 0 ? number : order + 1;
                default:
                    break;
            }
            return order + 1;
        }

        private int valueOf(int register) {
            return register >= 0 && register < REGISTERS ? values[register] : 0;
        }

        private void give(int register, int value) {
            if (register >= 0 && register < REGISTERS) {
                values[register] = Math.floorMod(value, VALUE_LIMIT);
            }
        }

        private static int placeOfCell(int value) {
            return REGISTERS + Math.floorMod(value, CELLS);
        }
    }

    /** The run of a state: which step starts when, and what is waited for. */
    private static final class Run {
        final Path[] paths = {new Path(), new Path()};
        final int[] started = new int[THREADS];
        final int[] lengths = new int[THREADS];
        final int[][] starts = new int[THREADS][MAX_STEPS];
        final int[][] ends = new int[THREADS][MAX_STEPS];
        final int[][] waits = new int[THREADS][REASONS];
        private final State state;
        private final int[] hindrances = new int[THREADS];
        private final int[][] readyAt = new int[THREADS][REGISTERS];
        private final int[] roomFreeAt = new int[ROOMS];
        private final int[] roomUser = new int[ROOMS];
        private int openRoom;

        Run(State state) {
            this.state = state;
        }

        /** Plays the run; no step waits for the open room (NONE: for both rooms steps wait). */
        void play(int openRoom) {
            follow();
            schedule(openRoom);
        }

        void follow() {
            for (int thread = 0; thread < THREADS; thread++) {
                paths[thread].follow(state.programs[thread], state.firstValues[thread]);
            }
        }

        void schedule(int openRoom) {
            this.openRoom = openRoom;
            clear();
            for (int tick = 0; tick < MAX_TICKS && (hasStep(0) || hasStep(1)); tick++) {
                playTick(tick);
            }
        }

        private void clear() {
            for (int room = 0; room < ROOMS; room++) {
                roomFreeAt[room] = 0;
            }
            for (int thread = 0; thread < THREADS; thread++) {
                started[thread] = 0;
                lengths[thread] = 0;
                for (int reason = 0; reason < REASONS; reason++) {
                    waits[thread][reason] = 0;
                }
                for (int register = 0; register < REGISTERS; register++) {
                    readyAt[thread][register] = 0;
                }
            }
        }

        private boolean hasStep(int thread) {
            return started[thread] < paths[thread].steps;
        }

        private void playTick(int tick) {
            for (int thread = 0; thread < THREADS; thread++) {
                hindrances[thread] = hindranceOf(thread, tick);
            }
            int starter = starterNow(tick);
            for (int thread = 0; thread < THREADS; thread++) {
                if (thread != starter && hasStep(thread)) {
                    int hindrance = hindrances[thread];
                    waits[thread][hindrance == FREE ? TURN : hindrance]++;
                }
            }
            if (starter != NONE) {
                start(starter, tick);
            }
        }

        /**
         * What keeps a thread's next step from its start, turns aside. A "?" ahead never does: it takes one tick,
         * and the next step starts in a later one.
         */
        private int hindranceOf(int thread, int tick) {
            if (!hasStep(thread)) {
                return NO_STEP;
            }
            Program program = state.programs[thread];
            int order = paths[thread].orders[started[thread]];
            for (int column = INTO; column <= RIGHT; column++) {
                if (!isReady(thread, program.told(order, column), tick)) {
                    return REGISTER;
                }
            }
            int room = program.roomOf(order);
            if (room == NONE || room == openRoom || roomFreeAt[room] <= tick) {
                return FREE;
            }
            return roomUser[room] == thread ? OWN_ROOM : OTHER_ROOM;
        }

        private boolean isReady(int thread, int register, int tick) {
            return register < 0 || register >= REGISTERS || readyAt[thread][register] <= tick;
        }

        /** The thread that starts its step in this tick, NONE if none does. */
        private int starterNow(int tick) {
            int turn = Math.floorMod(tick, THREADS);
            int other = 1 - turn;
            boolean turnCan = hindrances[turn] == FREE;
            boolean otherCan = hindrances[other] == FREE && state.settings[TURNS] != STRICT_TURNS;
            if (turnCan && otherCan && state.settings[TURNS] == FAIR_TURNS) {
                // NONE, of a thread that has started no step, is below every tick.
                return latestStart(other) < latestStart(turn) ? other : turn;
            }
            if (turnCan) {
                return turn;
            }
            return otherCan ? other : NONE;
        }

        private void start(int thread, int tick) {
            int step = started[thread];
            int order = paths[thread].orders[step];
            int room = state.programs[thread].roomOf(order);
            int end = tick + state.ticksFor(room);
            starts[thread][step] = tick;
            ends[thread][step] = end;
            started[thread] = step + 1;
            lengths[thread] = Math.max(lengths[thread], end);
            int given = state.programs[thread].givenBy(order);
            if (given >= 0 && given < REGISTERS) {
                readyAt[thread][given] = end;
            }
            if (room != NONE) {
                roomFreeAt[room] = end;
                roomUser[room] = thread;
            }
        }

        int length() {
            return Math.max(lengths[0], lengths[1]);
        }

        /** The tick of the thread's latest start, NONE if it has started no step. */
        int latestStart(int thread) {
            int steps = started[thread];
            return steps > 0 ? starts[thread][steps - 1] : NONE;
        }

        int waitAhead(int thread, int step) {
            int since = step > 0 ? starts[thread][step - 1] + 1 : 0;
            return starts[thread][step] - since;
        }

        /** How many steps of a thread are in a room. */
        int stepsIn(int thread, int room) {
            int steps = 0;
            for (int step = 0; step < started[thread]; step++) {
                if (state.programs[thread].roomOf(paths[thread].orders[step]) == room) {
                    steps++;
                }
            }
            return steps;
        }

        int ticksIn(int room) {
            return (stepsIn(0, room) + stepsIn(1, room)) * state.ticksFor(room);
        }

        int starterIn(int tick) {
            for (int thread = 0; thread < THREADS; thread++) {
                for (int step = 0; step < started[thread]; step++) {
                    if (starts[thread][step] == tick) {
                        return thread;
                    }
                }
            }
            return NONE;
        }

        int userIn(int tick, int room) {
            for (int thread = 0; thread < THREADS; thread++) {
                for (int step = 0; step < started[thread]; step++) {
                    boolean within = starts[thread][step] <= tick && tick < ends[thread][step];
                    if (within && state.programs[thread].roomOf(paths[thread].orders[step]) == room) {
                        return thread;
                    }
                }
            }
            return NONE;
        }
    }
}
