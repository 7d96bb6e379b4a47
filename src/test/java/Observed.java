import java.util.ArrayList;
import java.util.List;

/** All that calls can tell of an object. The looking uses the object up: it undoes, restores and changes it. */
final class Observed {
    private final TwinThreads x;
    private final List<Integer> seen = new ArrayList<>();

    private Observed(TwinThreads x) {
        this.x = x;
    }

    /** Some 460 calls. */
    static List<Integer> all(TwinThreads x) {
        Observed observed = new Observed(x);
        observed.pad();
        observed.run();
        observed.programs();
        observed.history();
        observed.slots();
        return observed.seen;
    }

    /** Settings, programs and first values (seen where the programs don't change them), in some 90 calls. */
    static List<Integer> state(TwinThreads x) {
        Observed observed = new Observed(x);
        observed.settings();
        observed.programs();
        for (int thread = 0; thread < 2; thread++) {
            x.drop(thread);
        }
        observed.values();
        return observed.seen;
    }

    private void pad() {
        seen.add(x.count(5));
        seen.add(x.fault());
    }

    private void settings() {
        for (int what = 7; what <= 9; what++) {
            seen.add(x.count(what));
        }
    }

    private void values() {
        for (int at = 0; at < 12; at++) {
            seen.add(x.last(0, at));
            seen.add(x.last(1, at));
        }
    }

    private void run() {
        for (int what = 0; what < 10; what++) {
            seen.add(x.count(what));
        }
        for (int what = 0; what <= 10; what++) {
            seen.add(x.ofThread(0, what));
            seen.add(x.ofThread(1, what));
        }
        values();
        for (int tick = 0; tick < 12; tick++) {
            for (int what = 0; what < 3; what++) {
                seen.add(x.at(tick, what));
            }
        }
        for (int what = 0; what < 2; what++) {
            seen.add(x.alone(what));
            seen.add(x.lengthWithout(what));
            seen.add(x.bestExchange(0, what));
            seen.add(x.bestExchange(1, what));
        }
        seen.add(x.bestTurns());
    }

    private void programs() {
        for (int thread = 0; thread < 2; thread++) {
            int size = x.ofThread(thread, 0);
            seen.add(size);
            for (int order = 0; order < Math.min(size, 6); order++) {
                for (int what = 0; what < 5; what++) {
                    seen.add(x.ofOrder(thread, order, what));
                }
            }
        }
    }

    private void history() {
        for (int times = 0; times < 7; times++) {
            seen.add(x.undo());
            seen.add(x.count(0));
            settings();
            for (int thread = 0; thread < 2; thread++) {
                seen.add(x.ofThread(thread, 0));
                seen.add(x.last(thread, 0));
                seen.add(x.last(thread, 4));
            }
        }
    }

    private void slots() {
        for (int slot = 0; slot < 2; slot++) {
            seen.add(x.restore(slot));
            settings();
            programs();
            seen.add(x.drop(0));
            seen.add(x.drop(1));
            values();
        }
    }
}
