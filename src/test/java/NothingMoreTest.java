import java.util.Map;

/**
 * "Nothing is promised beyond the answers and state changes described above": made in
 * every state of Stores, a call changes no answer but those that its promise speaks of.
 */
public final class NothingMoreTest {
    private static final Check check = new Check();
    private static final Map<String, Stores.Calls> STATES = Stores.states();

    public static void main(String[] args) {
        for (String state : STATES.keySet()) {
            asking(state);
            begin(state);
            write(state);
            commit(state);
            commitOfNoKey(state);
            commitInConflict(state);
            abort(state);
            seal(state);
            flush(state);
            crash(state);
            otherObjects(state);
        }
        check.end();
    }

    private static BehindStore in(String state) {
        return Stores.in(STATES.get(state));
    }

    /** Every answer is as before, but for those whose call matches. */
    private static void changesOnly(String matching, String state, BehindStore x, Stores.Calls made) {
        Map<String, Integer> before = Stores.seen(x);
        made.on(x);
        Map<String, Integer> after = Stores.seen(x);
        for (String asked : before.keySet()) {
            if (!asked.matches(matching)) {
                check.due(asked + " (" + state + ")", after.get(asked), before.get(asked));
            }
        }
    }

    private static void asking(String state) {
        check.part("asking");
        Stores.Calls before = STATES.get(state);
        check.isTrue("it changes nothing (" + state + ")",
            Stores.seenAfter(before, x -> Stores.seen(x))
                .equals(Stores.seenAfter(before, x -> { })));
    }

    private static void begin(String state) {
        check.part("begin");
        int t = in(state).begin();
        changesOnly("open\\(\\)|read\\(" + t + ", .\\)", state, in(state), x -> x.begin());
    }

    private static void write(String state) {
        for (int t = 0; t < 4; t++) {
            for (int key = 0; key < 8; key++) {
                check.part("write by " + t + " to " + key);
                int by = t;
                int to = key;
                BehindStore x = in(state);
                int conflicts = x.conflicts(t);
                String own = "read\\(" + t + ", " + key + "\\)|conflicts\\(" + t + "\\)";
                changesOnly(own, state, x, y -> y.write(by, to, 71));
                check.due("conflicts of other keys (" + state + ")",
                    x.conflicts(t) & ~(1 << key), conflicts & ~(1 << key));
            }
        }
    }

    // Where 0 is open it wrote none yet, and neither key was committed since it began; 1,
    // where it is open, wrote the first of them.
    private static void commit(String state) {
        BehindStore x = in(state);
        if (x.write(0, 1, 72) == BehindStore.NONE) {
            return;
        }
        check.part("commit");
        x.write(0, 5, 73);
        int conflicts = x.conflicts(1);
        String own = "commits\\(\\)|open\\(\\)|value\\([15]\\)|read\\(0, .\\)|conflicts\\(1\\)";
        changesOnly(own, state, x, y -> check.due("commit", y.commit(0), BehindStore.OK));
        check.due("conflicts of other keys (" + state + ")", x.conflicts(1) & ~0b10, conflicts);
    }

    private static void commitOfNoKey(String state) {
        check.part("commit of none");
        changesOnly("open\\(\\)|read\\(0, .\\)", state, in(state), x -> x.commit(0));
    }

    private static void commitInConflict(String state) {
        BehindStore x = in(state);
        if (x.conflicts(1) == 0) {
            return;
        }
        check.part("commit in conflict");
        changesOnly("open\\(\\)|read\\(1, .\\)|conflicts\\(1\\)", state, x, y -> y.commit(1));
    }

    private static void abort(String state) {
        for (int t = 0; t < 4; t++) {
            check.part("abort of " + t);
            int ended = t;
            String own = "open\\(\\)|read\\(" + t + ", .\\)|conflicts\\(" + t + "\\)";
            changesOnly(own, state, in(state), x -> x.abort(ended));
        }
    }

    private static void seal(String state) {
        check.part("seal");
        changesOnly("stepsLeft\\(\\)", state, in(state), x -> x.seal());
    }

    private static void flush(String state) {
        int left = in(state).stepsLeft();
        for (int n = 0; n < left; n++) {
            check.part("flush of " + n);
            int steps = n;
            changesOnly("stepsLeft\\(\\)", state, in(state), x -> x.flush(steps));
        }
        check.part("flush of all");
        changesOnly("stepsLeft\\(\\)|durable\\(\\)|safeValue\\(.\\)", state, in(state),
            x -> x.flush(left));
    }

    private static void crash(String state) {
        check.part("crash");
        String lost = "commits\\(\\)|open\\(\\)|stepsLeft\\(\\)|value\\(.\\)|read\\(.*\\)|conflicts\\(.\\)";
        changesOnly(lost, state, in(state), x -> x.crash());
    }

    private static void otherObjects(String state) {
        check.part("calls on another object");
        for (String other : STATES.keySet()) {
            changesOnly("", state, in(state), x -> Stores.seenAfter(STATES.get(other), y -> y.crash()));
            check.isTrue("the same calls give the same answers (" + other + ")",
                Stores.seen(in(other)).equals(Stores.seen(in(other))));
        }
    }
}
