import java.util.ArrayList;
import java.util.List;
import java.util.Map;
import java.util.TreeMap;

/** Stores in various states, and what they answer from there on. */
final class Stores {
    interface Calls {
        void on(BehindStore x);
    }

    interface Answer {
        int of(BehindStore x);
    }

    // 32 and its like are here because a shift takes its distance modulo 32, and the
    // multiples of 2^29 because a row of eight cells is found with a product.
    static final int[] NOT_SLOTS = {
        -1, -2, -4, 4, 5, 8, 31, 32, 33, 64, 256, -32, -31,
        1 << 29, 1 << 30, Integer.MIN_VALUE, Integer.MIN_VALUE + 1, Integer.MAX_VALUE};
    static final int[] NOT_KEYS = {
        -1, -2, -8, 8, 9, 15, 16, 24, 31, 32, 33, 64, 256, -32, -31,
        1 << 29, 1 << 30, Integer.MIN_VALUE, Integer.MIN_VALUE + 1, Integer.MAX_VALUE};

    private Stores() {
    }

    /** Commits one transaction that writes v to each key of the mask. */
    static int commitKeys(BehindStore x, int keyMask, int v) {
        int t = x.begin();
        writeKeys(x, t, keyMask, v);
        return x.commit(t);
    }

    static void writeKeys(BehindStore x, int t, int keyMask, int v) {
        for (int key = 0; key < 8; key++) {
            if ((keyMask & (1 << key)) != 0) {
                x.write(t, key, v);
            }
        }
    }

    /** A new store in which exactly the transactions of the mask are open. */
    static BehindStore withOpen(int openMask) {
        BehindStore x = new BehindStore();
        for (int t = 0; t < 4; t++) {
            x.begin();
        }
        for (int t = 0; t < 4; t++) {
            if ((openMask & (1 << t)) == 0) {
                x.abort(t);
            }
        }
        return x;
    }

    static BehindStore withAllOpen() {
        return withOpen(15);
    }

    static BehindStore in(Calls state) {
        BehindStore x = new BehindStore();
        state.on(x);
        return x;
    }

    /** The calls that bring a new store into each state, by a name for it. */
    static Map<String, Calls> states() {
        Map<String, Calls> states = new TreeMap<>();
        states.put("new", x -> { });
        states.put("four open", Stores::openFour);
        states.put("waiting", Stores::waiting);
        states.put("waiting, four open", x -> {
            waiting(x);
            openFour(x);
        });
        states.put("flushing, none waiting", Stores::flushing);
        states.put("flushing, some waiting, four open", x -> {
            flushing(x);
            openFour(x);
        });
        states.put("one step before the end", x -> {
            flushing(x);
            x.flush(x.stepsLeft() - 1);
            openFour(x);
        });
        states.put("durable", Stores::durable);
        states.put("durable, flushing, waiting", x -> {
            durable(x);
            commitKeys(x, 0b00111100, 61);
            x.seal();
            openFour(x);
            x.abort(1);
        });
        states.put("crashed", x -> {
            durable(x);
            flushing(x);
            openFour(x);
            x.crash();
        });
        states.put("crashed, four open", x -> {
            durable(x);
            flushing(x);
            x.crash();
            openFour(x);
        });
        return states;
    }

    // Leaves 0 open without a write, 1 in conflict, 2 with a write and no conflict, and
    // 3 begun after the others' commit; at least one commit waits.
    private static void openFour(BehindStore x) {
        for (int t = 0; t < 4; t++) {
            x.begin();
        }
        writeKeys(x, 1, 0b10000011, 31);
        writeKeys(x, 2, 0b00000100, 32);
        writeKeys(x, 3, 0b10000001, 33);
        x.commit(3);
        x.begin();
        writeKeys(x, 3, 0b00000001, 34);
    }

    private static void waiting(BehindStore x) {
        commitKeys(x, 0b11111111, 11);
        commitKeys(x, 0b00001001, 12);
    }

    private static void flushing(BehindStore x) {
        commitKeys(x, 0b01010101, 21);
        commitKeys(x, 0b00010001, 22);
        x.seal();
        x.flush(2);
    }

    private static void durable(BehindStore x) {
        commitKeys(x, 0b11111110, 51);
        commitKeys(x, 0b00000011, 52);
        x.seal();
        x.flush(1000);
    }

    /** What a store may meet next, each short enough to stay below 512 calls. */
    private static final Calls[] FUTURES = {
        x -> { },
        x -> x.crash(),
        x -> x.begin(),
        x -> x.flush(1),
        x -> x.flush(1000),
        x -> x.seal(),
        x -> {
            x.flush(1000);
            x.seal();
            x.flush(1000);
        },
        x -> {
            for (int t = 0; t < 4; t++) {
                x.commit(t);
            }
        },
        x -> {
            for (int t = 3; t >= 0; t--) {
                writeKeys(x, t, 0b01000010, 91);
                x.commit(t);
            }
            x.flush(1000);
            x.seal();
        },
        x -> {
            for (int t = 0; t < 4; t++) {
                x.abort(t);
            }
            commitKeys(x, 0b00011000, 92);
        },
    };

    /** All that can be seen of a store after the calls of a state, one more, and each future. */
    static List<Map<String, Integer>> seenAfter(Calls state, Calls call) {
        List<Map<String, Integer>> all = new ArrayList<>();
        for (Calls future : FUTURES) {
            BehindStore x = in(state);
            call.on(x);
            future.on(x);
            all.add(seen(x));
        }
        return all;
    }

    /** What a store answers when asked all it can be asked, by the call that was made. */
    static Map<String, Integer> seen(BehindStore x) {
        Map<String, Integer> answers = new TreeMap<>();
        answers.put("commits()", x.commits());
        answers.put("durable()", x.durable());
        answers.put("stepsLeft()", x.stepsLeft());
        answers.put("open()", x.open());
        for (int key = 0; key < 8; key++) {
            answers.put("value(" + key + ")", x.value(key));
            answers.put("safeValue(" + key + ")", x.safeValue(key));
        }
        for (int t = 0; t < 4; t++) {
            answers.put("conflicts(" + t + ")", x.conflicts(t));
            for (int key = 0; key < 8; key++) {
                answers.put("read(" + t + ", " + key + ")", x.read(t, key));
            }
        }
        return answers;
    }
}
