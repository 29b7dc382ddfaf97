import java.util.List;
import java.util.Map;

/**
 * One method for each sentence of the document that names a boundary case. The text in
 * check.part is the sentence. Where a call is refused, a store that was refused is
 * compared with one that was never asked, in every state of Stores.
 */
public final class BoundaryTest {
    private static final int OK = BehindStore.OK;
    private static final int NONE = BehindStore.NONE;
    private static final int FULL = BehindStore.FULL;
    private static final int CONFLICT = BehindStore.CONFLICT;
    private static final int BUSY = BehindStore.BUSY;
    private static final int MIN = Integer.MIN_VALUE;
    private static final int MAX = Integer.MAX_VALUE;
    private static final int PLENTY = 1000;

    private static final Check check = new Check();
    private static final Map<String, Stores.Calls> STATES = Stores.states();

    public static void main(String[] args) {
        statesAreAsNamed();
        eightKeys();
        lastCallMostCommits();
        lastCallLongestFlush();
        laterCallsEnd();
        zeroAtFirst();
        commitsInOrder();
        firstPartIsDurable();
        snapshotAtBegin();
        crashLosesAllThatIsNotDurable();
        numberAfterCrash();

        newObject();

        beginTakesTheLeast();
        beginAfterEachEnd();
        beginFull();

        lastWriteCounts();
        writeAnyValue();
        writeNotOpen();
        writeNotKey();
        writeNeitherOpenNorKey();

        readOwnWrite();
        readSnapshot();
        readNotOpen();
        readNotKey();

        commitNotOpen();
        commitConflictOnEachKey();
        commitConflictCommitsNothing();
        commitConflictFromTheBeginOn();
        commitConflictOnlyWithCommitted();
        commitOfOneKey();
        commitOfNoKey();
        commitEnds();

        abortCommitsNothing();
        abortNotOpen();

        sealBusy();
        sealEmpty();
        sealCountsSteps();

        flushBelowZero();
        flushZero();
        flushUpToN();
        flushAsFarAsThereAre();
        flushNothing();
        flushLastStep();

        stepsLeftWithoutGroup();
        stepsLeftToTheLast();

        crashEachState();
        crashTwice();

        commitsCountsEachGroup();
        durableAtTheLastStep();

        valueNotKey();
        valueAfterAllCommits();

        safeValueNotKey();
        safeValueIsWhatACrashLeaves();

        conflictsBits();
        conflictsForetellCommit();
        conflictsNotOpen();

        openBits();
        check.end();
    }

    /** The call answers this in every state that is named, and nothing later tells of it. */
    private static void changesNothing(String call, String state, Stores.Answer made, int due) {
        Stores.Calls before = STATES.get(state);
        String where = " (" + state + ")";
        check.due(call + where, made.of(Stores.in(before)), due);
        List<Map<String, Integer>> with = Stores.seenAfter(before, made::of);
        List<Map<String, Integer>> without = Stores.seenAfter(before, x -> { });
        check.isTrue(call + " changes nothing" + where, with.equals(without));
    }

    private static void changesNothingAnywhere(String call, Stores.Answer made, int due) {
        for (String state : STATES.keySet()) {
            changesNothing(call, state, made, due);
        }
    }

    private static boolean isOpen(String state, int t) {
        return (Stores.in(STATES.get(state)).open() & (1 << t)) != 0;
    }

    // Without this, a state that is not reached would let its tests pass unseen.
    private static void statesAreAsNamed() {
        check.part("the states of Stores");
        for (String state : STATES.keySet()) {
            BehindStore x = Stores.in(STATES.get(state));
            boolean fourOpen = state.contains("four open") || state.startsWith("one step");
            check.isTrue("four open: " + state, fourOpen == (x.open() == 15));
            check.isTrue("one in conflict: " + state, fourOpen == (x.conflicts(1) != 0));
            boolean flushes = state.contains("flushing") || state.startsWith("one step");
            check.isTrue("flushing: " + state, flushes == (x.stepsLeft() > 0));
        }
        check.due("one step", Stores.in(STATES.get("one step before the end")).stepsLeft(), 1);
        check.isTrue("durable", Stores.in(STATES.get("durable, flushing, waiting")).durable() > 0);
        check.isTrue("crashed", Stores.in(STATES.get("crashed")).durable() > 0);
    }

    // What it is

    private static void eightKeys() {
        check.part("A store of eight keys");
        BehindStore x = new BehindStore();
        x.begin();
        for (int key = 0; key < 8; key++) {
            check.due("write to key " + key, x.write(0, key, 100 + key), OK);
        }
        check.due("key -1", x.write(0, -1, 1), NONE);
        check.due("key 8", x.write(0, 8, 1), NONE);
        x.commit(0);
        for (int key = 0; key < 8; key++) {
            check.due("value of key " + key, x.value(key), 100 + key);
        }
    }

    private static void lastCallMostCommits() {
        check.part("at most 512 calls, the most commits");
        BehindStore x = new BehindStore();
        for (int i = 1; i <= 169; i++) {
            check.due("begin", x.begin(), 0);
            check.due("write", x.write(0, i % 8, i), OK);
            check.due("commit", x.commit(0), OK);
        }
        check.due("call 508, seal", x.seal(), 170);
        check.due("call 509, commits", x.commits(), 169);
        check.due("call 510, flush", x.flush(MAX), 170);
        check.due("call 511, durable", x.durable(), 169);
        check.due("call 512, safeValue", x.safeValue(1), 169);
    }

    private static void lastCallLongestFlush() {
        check.part("at most 512 calls, the longest flush");
        BehindStore x = new BehindStore();
        for (int i = 1; i <= 51; i++) {
            check.due("commit of all keys", Stores.commitKeys(x, 0xff, i), OK);
        }
        check.due("call 511, seal", x.seal(), 51 * 8 + 1);
        check.due("call 512, flush", x.flush(MAX), 51 * 8 + 1);
    }

    // What they answer is free, but no call may ever throw or fail to end.
    private static void laterCallsEnd() {
        check.part("what later calls answer is free");
        BehindStore x = new BehindStore();
        for (int i = 0; i < 5000; i++) {
            Stores.commitKeys(x, i & 0xff, i);
            x.begin();
            x.write(i % 6 - 1, i % 10 - 1, i);
            x.abort(i % 6 - 1);
            if (i % 7 == 0) {
                x.seal();
                x.flush(i % 100 - 5);
            }
            if (i % 100 == 0) {
                x.crash();
            }
            Stores.seen(x);
        }
    }

    // Terms

    private static void zeroAtFirst() {
        check.part("every key has the value 0 at first");
        BehindStore x = new BehindStore();
        x.begin();
        for (int key = 0; key < 8; key++) {
            check.due("value " + key, x.value(key), 0);
            check.due("safeValue " + key, x.safeValue(key), 0);
            check.due("read " + key, x.read(0, key), 0);
        }
    }

    private static void commitsInOrder() {
        check.part("numbered 1, 2, .. in the order of their commits");
        BehindStore x = Stores.withAllOpen();
        Stores.writeKeys(x, 0, 0b0011, 10);
        Stores.writeKeys(x, 1, 0b1100, 20);
        check.due("begun last, committed first", x.commit(1), OK);
        check.due("number", x.commits(), 1);
        check.due("begun first, committed last", x.commit(0), OK);
        check.due("number", x.commits(), 2);
        Stores.commitKeys(x, 0b0110, 30);
        check.due("number", x.commits(), 3);
        check.due("key 0", x.value(0), 10);
        check.due("key 1, written twice", x.value(1), 30);
        check.due("key 2, written twice", x.value(2), 30);
        check.due("key 3", x.value(3), 20);
    }

    private static void firstPartIsDurable() {
        check.part("some first part of the commits is DURABLE");
        BehindStore x = new BehindStore();
        Stores.commitKeys(x, 0b001, 1);
        x.seal();
        Stores.commitKeys(x, 0b010, 2);
        x.flush(PLENTY);
        check.due("committed before the group was formed", x.safeValue(0), 1);
        check.due("committed after it was formed", x.safeValue(1), 0);
        check.due("durable", x.durable(), 1);
        x.seal();
        Stores.commitKeys(x, 0b100, 3);
        check.due("durable while the next group flushes", x.durable(), 1);
        x.flush(PLENTY);
        check.due("safeValue of the second", x.safeValue(1), 2);
        check.due("safeValue of the third", x.safeValue(2), 0);
        check.due("durable", x.durable(), 2);
    }

    private static void snapshotAtBegin() {
        check.part("the state after all commits at the moment it began");
        BehindStore x = new BehindStore();
        Stores.commitKeys(x, 0b1, 1);
        x.seal();
        x.flush(PLENTY);
        Stores.commitKeys(x, 0b1, 2);
        x.seal();
        x.begin();
        check.due("a flushing commit is seen", x.read(0, 0), 2);
        Stores.commitKeys(x, 0b1, 3);
        x.begin();
        check.due("a waiting commit is seen", x.read(1, 0), 3);
        check.due("a later commit is not", x.read(0, 0), 2);
    }

    private static void crashLosesAllThatIsNotDurable() {
        check.part("A CRASH loses every open transaction and every commit that is not durable");
        BehindStore x = new BehindStore();
        Stores.commitKeys(x, 0b0001, 1);
        x.seal();
        x.flush(PLENTY);
        Stores.commitKeys(x, 0b0010, 2);
        x.seal();
        Stores.commitKeys(x, 0b0100, 3);
        x.begin();
        x.write(0, 3, 4);
        x.crash();
        check.due("durable", x.value(0), 1);
        check.due("flushing", x.value(1), 0);
        check.due("waiting", x.value(2), 0);
        check.due("open transactions", x.open(), 0);
        check.due("commit of the open one", x.commit(0), NONE);
        check.due("its key", x.value(3), 0);
        check.due("commits", x.commits(), 1);
        check.due("what was flushing does not go on", x.flush(PLENTY), 0);
        check.due("durable", x.durable(), 1);
    }

    private static void numberAfterCrash() {
        check.part("the next commit takes the number after them again");
        for (String state : STATES.keySet()) {
            BehindStore x = Stores.in(STATES.get(state));
            int durable = x.durable();
            x.crash();
            Stores.commitKeys(x, 0b1, 7);
            check.due("commits (" + state + ")", x.commits(), durable + 1);
            check.due("steps (" + state + ")", x.seal(), 2);
            x.flush(2);
            check.due("durable (" + state + ")", x.durable(), durable + 1);
        }
    }

    // Promise 1

    private static void newObject() {
        check.part("No commits, no open transactions, nothing flushing");
        BehindStore x = new BehindStore();
        check.due("commits", x.commits(), 0);
        check.due("durable", x.durable(), 0);
        check.due("open", x.open(), 0);
        check.due("stepsLeft", x.stepsLeft(), 0);
        check.due("flush", x.flush(MAX), 0);
        check.due("seal", x.seal(), NONE);
        for (int t = 0; t < 4; t++) {
            check.due("write", x.write(t, 0, 1), NONE);
            check.due("commit", x.commit(t), NONE);
            check.due("abort", x.abort(t), NONE);
            check.due("conflicts", x.conflicts(t), 0);
        }
        check.due("begin", x.begin(), 0);
    }

    // Promise 2

    private static void beginTakesTheLeast() {
        check.part("the least from 0 to 3 that is not in use");
        int[] least = {0, 1, 0, 2, 0, 1, 0, 3, 0, 1, 0, 2, 0, 1, 0};
        for (int mask = 0; mask < 15; mask++) {
            BehindStore x = Stores.withOpen(mask);
            check.due("begin with open " + mask, x.begin(), least[mask]);
            check.due("open", x.open(), mask | 1 << least[mask]);
        }
    }

    private static void beginAfterEachEnd() {
        check.part("begin, a number that was used before");
        for (int t = 0; t < 4; t++) {
            BehindStore x = Stores.withAllOpen();
            x.commit(t);
            check.due("after OK", x.begin(), t);
            x.write(t, 1, 5);
            x.abort(t);
            check.due("after abort", x.begin(), t);
            check.due("an old write", x.read(t, 1), 0);
            x.write((t + 1) % 4, 2, 6);
            x.write(t, 2, 7);
            x.commit((t + 1) % 4);
            check.due("the end", x.commit(t), CONFLICT);
            check.due("begin after OK and CONFLICT", x.begin(), t < (t + 1) % 4 ? t : 0);
            check.due("the other", x.begin(), t < (t + 1) % 4 ? t + 1 : 3);
            x.write(t, 2, 8);
            check.due("an old conflict", x.conflicts(t), 0);
            x.crash();
            check.due("after a crash", x.begin(), 0);
        }
    }

    private static void beginFull() {
        check.part("FULL when four are open");
        for (String state : STATES.keySet()) {
            if (Stores.in(STATES.get(state)).open() == 15) {
                changesNothing("begin", state, x -> x.begin(), FULL);
            }
        }
        BehindStore x = Stores.withAllOpen();
        check.due("fifth", x.begin(), FULL);
        check.due("sixth", x.begin(), FULL);
        x.abort(2);
        check.due("with three open again", x.begin(), 2);
        check.due("with four open again", x.begin(), FULL);
    }

    // Promise 3

    private static void lastWriteCounts() {
        check.part("its last write to a key counts");
        BehindStore x = new BehindStore();
        x.begin();
        x.write(0, 4, 1);
        x.write(0, 5, 9);
        x.write(0, 4, 2);
        x.write(0, 4, 0);
        x.write(0, 5, 8);
        x.commit(0);
        check.due("back to 0", x.value(4), 0);
        check.due("the later one", x.value(5), 8);
        check.due("one commit", x.commits(), 1);
        check.due("two keys", x.seal(), 3);
    }

    private static void writeAnyValue() {
        check.part("writes v to key, the least and the greatest v");
        // The answers of other calls are among them: a value must not pass for one.
        for (int v : new int[] {MIN, MIN + 1, -5, BUSY, CONFLICT, FULL, NONE, 0, 1, MAX - 1, MAX}) {
            for (int key = 0; key < 8; key++) {
                BehindStore x = new BehindStore();
                x.begin();
                check.due("write " + v, x.write(0, key, v), OK);
                check.due("read", x.read(0, key), v);
                check.due("commit", x.commit(0), OK);
                check.due("value", x.value(key), v);
                check.due("commits", x.commits(), 1);
                x.seal();
                x.flush(2);
                check.due("safeValue", x.safeValue(key), v);
                x.crash();
                check.due("value after a crash", x.value(key), v);
            }
        }
    }

    private static void writeNotOpen() {
        check.part("write: NONE, changing nothing, when t is not open");
        for (int t : Stores.NOT_SLOTS) {
            changesNothingAnywhere("write by " + t, x -> x.write(t, 2, 77), NONE);
        }
        for (String state : STATES.keySet()) {
            for (int t = 0; t < 4; t++) {
                if (!isOpen(state, t)) {
                    int ended = t;
                    changesNothing("write by " + t, state, x -> x.write(ended, 2, 77), NONE);
                }
            }
        }
    }

    private static void writeNotKey() {
        check.part("write: NONE, changing nothing, when key is not 0 .. 7");
        for (int key : Stores.NOT_KEYS) {
            for (int t = 0; t < 4; t++) {
                int by = t;
                changesNothingAnywhere("write by " + t + " to " + key, x -> x.write(by, key, 77), NONE);
            }
        }
        BehindStore x = new BehindStore();
        x.begin();
        x.write(0, 8, 1);
        x.write(0, -1, 1);
        check.due("commit after wrong writes alone", x.commit(0), OK);
        check.due("nothing is committed", x.commits(), 0);
        check.due("nothing waits", x.seal(), NONE);
    }

    private static void writeNeitherOpenNorKey() {
        check.part("write: NONE, changing nothing, when both are wrong");
        for (int wrong : new int[] {-1, 8, 32, MIN, MAX}) {
            changesNothingAnywhere("write", x -> x.write(wrong, wrong, 77), NONE);
        }
    }

    // Promise 4

    private static void readOwnWrite() {
        check.part("its own last write to it");
        BehindStore x = new BehindStore();
        Stores.commitKeys(x, 0xff, 5);
        x.begin();
        x.begin();
        x.write(0, 0, 1);
        x.write(0, 0, 2);
        x.write(0, 7, 0);
        check.due("the last one", x.read(0, 0), 2);
        check.due("a write of 0", x.read(0, 7), 0);
        check.due("its neighbour", x.read(0, 6), 5);
        check.due("another transaction", x.read(1, 7), 5);
        Stores.commitKeys(x, 0xff, 6);
        check.due("after another one's commit of the key", x.read(0, 0), 2);
    }

    private static void readSnapshot() {
        check.part("or else the value in its snapshot");
        BehindStore x = new BehindStore();
        Stores.commitKeys(x, 0xff, 5);
        x.begin();
        Stores.commitKeys(x, 0xff, 6);
        x.seal();
        x.flush(PLENTY);
        for (int key = 0; key < 8; key++) {
            check.due("read " + key, x.read(0, key), 5);
        }
        check.due("a read is no write", x.conflicts(0), 0);
        check.due("commit of reads", x.commit(0), OK);
        check.due("commits", x.commits(), 2);
    }

    private static void readNotOpen() {
        check.part("read: 0 when t is not open");
        for (int t : Stores.NOT_SLOTS) {
            for (int key : new int[] {0, 2, 7}) {
                changesNothingAnywhere("read by " + t, x -> x.read(t, key), 0);
            }
        }
        for (int end = 0; end < 4; end++) {
            BehindStore x = new BehindStore();
            Stores.commitKeys(x, 0xff, 5);
            x.seal();
            x.flush(PLENTY);
            x.begin();
            x.begin();
            x.write(1, 3, 9);
            x.write(0, 3, 6);
            if (end >= 2) {
                x.commit(1);
            }
            switch (end) {
                case 0 -> x.abort(0);
                case 1 -> x.commit(0);
                case 2 -> x.commit(0);
                default -> x.crash();
            }
            for (int key = 0; key < 8; key++) {
                check.due("after its end", x.read(0, key), 0);
            }
        }
    }

    private static void readNotKey() {
        check.part("read: 0 when key is not 0 .. 7");
        for (int key : Stores.NOT_KEYS) {
            for (int t = 0; t < 4; t++) {
                int by = t;
                changesNothingAnywhere("read by " + t + " of " + key, x -> x.read(by, key), 0);
            }
        }
    }

    // Promise 5

    private static void commitNotOpen() {
        check.part("commit: NONE when t is not open");
        for (int t : Stores.NOT_SLOTS) {
            changesNothingAnywhere("commit of " + t, x -> x.commit(t), NONE);
        }
        for (String state : STATES.keySet()) {
            for (int t = 0; t < 4; t++) {
                if (!isOpen(state, t)) {
                    int ended = t;
                    changesNothing("commit of " + t, state, x -> x.commit(ended), NONE);
                }
            }
        }
    }

    private static void commitConflictOnEachKey() {
        check.part("CONFLICT when some key that t wrote was written");
        for (int mine = 0; mine < 8; mine++) {
            for (int other = 0; other < 8; other++) {
                BehindStore x = new BehindStore();
                x.begin();
                x.write(0, mine, 1);
                Stores.commitKeys(x, 1 << other, 1);
                check.due("keys " + mine + " and " + other, x.commit(0),
                    mine == other ? CONFLICT : OK);
            }
        }
        for (int key = 0; key < 8; key++) {
            BehindStore x = new BehindStore();
            x.begin();
            Stores.writeKeys(x, 0, 0xff, 1);
            Stores.commitKeys(x, 1 << key, 2);
            check.due("one key of all, " + key, x.commit(0), CONFLICT);
        }
    }

    private static void commitConflictCommitsNothing() {
        check.part("CONFLICT, and nothing is committed");
        for (String state : STATES.keySet()) {
            if (Stores.in(STATES.get(state)).conflicts(1) == 0) {
                continue;
            }
            Stores.Calls before = STATES.get(state);
            BehindStore x = Stores.in(before);
            check.due("commit (" + state + ")", x.commit(1), CONFLICT);
            check.due("open (" + state + ")", x.open(), 0b1101);
            List<Map<String, Integer>> refused = Stores.seenAfter(before, y -> y.commit(1));
            List<Map<String, Integer>> aborted = Stores.seenAfter(before, y -> y.abort(1));
            check.isTrue("CONFLICT is as abort (" + state + ")", refused.equals(aborted));
        }
        BehindStore x = Stores.withAllOpen();
        Stores.writeKeys(x, 0, 0b01, 1);
        Stores.writeKeys(x, 1, 0b11, 2);
        x.commit(0);
        check.due("commit", x.commit(1), CONFLICT);
        check.due("commits", x.commits(), 1);
        check.due("the key in conflict", x.value(0), 1);
        check.due("the key that is not", x.value(1), 0);
        check.due("what waits", x.seal(), 2);
    }

    private static void commitConflictFromTheBeginOn() {
        check.part("by a transaction that committed after t began");
        BehindStore x = new BehindStore();
        x.begin();
        x.begin();
        x.write(0, 3, 1);
        x.write(1, 3, 2);
        x.commit(0);
        x.begin();
        x.write(0, 3, 3);
        check.due("began right after it", x.conflicts(0), 0);
        check.due("began right before it", x.commit(1), CONFLICT);
        check.due("began right after it", x.commit(0), OK);

        BehindStore y = new BehindStore();
        y.begin();
        Stores.commitKeys(y, 0b1, 1);
        y.write(0, 0, 2);
        check.due("wrote only after it", y.commit(0), CONFLICT);

        BehindStore z = new BehindStore();
        z.begin();
        z.begin();
        z.write(1, 0, 1);
        z.abort(0);
        z.begin();
        z.commit(1);
        z.write(0, 0, 2);
        check.due("the other began earlier, committed later", z.commit(0), CONFLICT);

        BehindStore w = new BehindStore();
        w.begin();
        Stores.commitKeys(w, 0b1, 1);
        Stores.commitKeys(w, 0b10, 1);
        w.seal();
        w.flush(PLENTY);
        w.write(0, 0, 1);
        check.due("with the first of several, durable by now", w.commit(0), CONFLICT);
    }

    private static void commitConflictOnlyWithCommitted() {
        check.part("no CONFLICT with one that did not commit");
        BehindStore x = Stores.withAllOpen();
        x.write(0, 0, 1);
        x.write(1, 0, 1);
        x.write(1, 1, 1);
        x.write(2, 1, 1);
        check.due("with one that is open", x.commit(0), OK);
        check.due("refused", x.commit(1), CONFLICT);
        check.due("with one that was refused", x.commit(2), OK);
        x.begin();
        x.write(0, 5, 1);
        x.abort(0);
        x.write(3, 5, 1);
        check.due("with one that was aborted", x.commit(3), OK);

        BehindStore y = Stores.withAllOpen();
        y.write(0, 0, 1);
        y.commit(0);
        y.crash();
        y.begin();
        y.write(0, 0, 2);
        check.due("with one that was lost", y.commit(0), OK);

        BehindStore z = new BehindStore();
        z.begin();
        z.write(0, 0, 1);
        z.commit(0);
        z.begin();
        z.write(0, 0, 2);
        check.due("with its number's own last commit", z.commit(0), OK);
    }

    private static void commitOfOneKey() {
        check.part("when t wrote at least one key, t is committed, and in the waiting group");
        for (int key = 0; key < 8; key++) {
            BehindStore x = new BehindStore();
            x.begin();
            x.write(0, key, 0);
            check.due("commit", x.commit(0), OK);
            check.due("a write that alters no value is one", x.commits(), 1);
            check.due("not durable", x.durable(), 0);
            check.due("not flushing", x.flush(PLENTY), 0);
            check.due("waiting", x.seal(), 2);
        }
    }

    private static void commitOfNoKey() {
        check.part("when it wrote none, nothing is committed");
        BehindStore x = Stores.withAllOpen();
        x.read(0, 0);
        check.due("commit", x.commit(0), OK);
        check.due("commits", x.commits(), 0);
        check.due("seal", x.seal(), NONE);
        Stores.commitKeys(x, 0xff, 1);
        check.due("commit when all keys were written since", x.commit(1), OK);
        check.due("commits", x.commits(), 1);
        x.seal();
        check.due("commit while flushing", x.commit(2), OK);
        x.flush(PLENTY);
        check.due("seal", x.seal(), NONE);
        check.due("durable", x.durable(), 1);
        for (String state : STATES.keySet()) {
            if (isOpen(state, 0)) {
                Stores.Calls before = STATES.get(state);
                check.isTrue("it is as abort (" + state + ")",
                    Stores.seenAfter(before, y -> y.commit(0))
                        .equals(Stores.seenAfter(before, y -> y.abort(0))));
            }
        }
    }

    private static void commitEnds() {
        check.part("After CONFLICT and after OK t is open no more");
        for (int t = 0; t < 4; t++) {
            for (int kind = 0; kind < 3; kind++) {
                BehindStore x = Stores.withAllOpen();
                int other = (t + 1) % 4;
                if (kind > 0) {
                    x.write(t, 0, 1);
                }
                if (kind > 1) {
                    x.write(other, 0, 2);
                    x.commit(other);
                }
                int openBefore = x.open();
                check.due("commit", x.commit(t), kind > 1 ? CONFLICT : OK);
                check.due("open", x.open(), openBefore & ~(1 << t));
                check.due("write", x.write(t, 1, 1), NONE);
                check.due("read", x.read(t, 0), 0);
                check.due("conflicts", x.conflicts(t), 0);
                check.due("abort", x.abort(t), NONE);
                check.due("commit again", x.commit(t), NONE);
            }
        }
    }

    // Promise 6

    private static void abortCommitsNothing() {
        check.part("Ends transaction t without committing it; answers OK");
        for (int t = 0; t < 4; t++) {
            BehindStore x = Stores.withAllOpen();
            Stores.writeKeys(x, t, 0xff, 3);
            check.due("abort", x.abort(t), OK);
            check.due("open", x.open(), 15 & ~(1 << t));
            check.due("commits", x.commits(), 0);
            check.due("value", x.value(0), 0);
            check.due("seal", x.seal(), NONE);
            check.due("write", x.write(t, 0, 1), NONE);
            check.due("begin", x.begin(), t);
        }
        BehindStore y = Stores.withAllOpen();
        y.write(0, 0, 1);
        y.write(1, 0, 2);
        y.commit(0);
        check.due("abort of one in conflict", y.abort(1), OK);
        check.due("abort of one that wrote none", y.abort(2), OK);
    }

    private static void abortNotOpen() {
        check.part("abort: NONE when t is not open");
        for (int t : Stores.NOT_SLOTS) {
            changesNothingAnywhere("abort of " + t, x -> x.abort(t), NONE);
        }
        for (String state : STATES.keySet()) {
            for (int t = 0; t < 4; t++) {
                if (!isOpen(state, t)) {
                    int ended = t;
                    changesNothing("abort of " + t, state, x -> x.abort(ended), NONE);
                }
            }
        }
    }

    // Promise 7

    private static void sealBusy() {
        check.part("BUSY, changing nothing, when there is a flushing group");
        changesNothing("seal", "flushing, none waiting", x -> x.seal(), BUSY);
        changesNothing("seal", "flushing, some waiting, four open", x -> x.seal(), BUSY);
        changesNothing("seal", "one step before the end", x -> x.seal(), BUSY);
        changesNothing("seal", "durable, flushing, waiting", x -> x.seal(), BUSY);
        BehindStore x = new BehindStore();
        Stores.commitKeys(x, 0b1, 1);
        x.seal();
        check.due("right after it was formed", x.seal(), BUSY);
        Stores.commitKeys(x, 0b10, 2);
        check.due("with one waiting", x.seal(), BUSY);
        x.flush(2);
        check.due("what waited was not taken along", x.safeValue(1), 0);
        check.due("and waits still", x.seal(), 2);
    }

    private static void sealEmpty() {
        check.part("NONE, changing nothing, when the waiting group is empty");
        changesNothing("seal", "new", x -> x.seal(), NONE);
        changesNothing("seal", "durable", x -> x.seal(), NONE);
        changesNothing("seal", "crashed", x -> x.seal(), NONE);
        BehindStore x = Stores.withAllOpen();
        Stores.writeKeys(x, 0, 0xff, 1);
        check.due("open writes alone", x.seal(), NONE);
        x.abort(0);
        x.commit(1);
        check.due("aborted and empty ones alone", x.seal(), NONE);
        x.write(2, 0, 1);
        x.write(3, 0, 2);
        x.commit(2);
        x.seal();
        x.flush(PLENTY);
        x.commit(3);
        check.due("a refused commit alone", x.seal(), NONE);
        Stores.commitKeys(x, 0b1, 3);
        x.crash();
        check.due("lost ones alone", x.seal(), NONE);
    }

    private static void sealCountsSteps() {
        check.part("one for each key written in each transaction of the group, and one more");
        for (int mask = 1; mask < 256; mask++) {
            BehindStore x = new BehindStore();
            Stores.commitKeys(x, mask, 1);
            check.due("keys " + mask, x.seal(), Integer.bitCount(mask) + 1);
        }
        BehindStore y = new BehindStore();
        Stores.commitKeys(y, 0b1, 1);
        Stores.commitKeys(y, 0b1, 1);
        Stores.commitKeys(y, 0b11, 1);
        check.due("a key in three transactions", y.seal(), 5);
        y.flush(PLENTY);
        y.begin();
        y.write(0, 0, 1);
        y.write(0, 0, 2);
        y.write(0, 0, 3);
        y.commit(0);
        check.due("a key three times in one", y.seal(), 2);
        Stores.commitKeys(y, 0b111, 1);
        y.flush(PLENTY);
        Stores.commitKeys(y, 0b111, 2);
        check.due("the group of before and after the flush", y.seal(), 7);
    }

    // Promise 8

    private static void flushBelowZero() {
        check.part("n below 0 counts as 0");
        for (int n : new int[] {-1, -2, -1000, MIN + 1, MIN}) {
            changesNothingAnywhere("flush " + n, x -> x.flush(n), 0);
        }
    }

    private static void flushZero() {
        check.part("Takes up to n steps, n is 0");
        changesNothingAnywhere("flush 0", x -> x.flush(0), 0);
    }

    private static void flushUpToN() {
        check.part("Takes up to n steps of flushing");
        for (int n = 0; n <= 12; n++) {
            BehindStore x = new BehindStore();
            Stores.commitKeys(x, 0xff, 1);
            x.seal();
            int due = n < 9 ? n : 9;
            check.due("flush " + n + " of 9", x.flush(n), due);
            check.due("left after " + n, x.stepsLeft(), 9 - due);
            check.due("durable after " + n, x.durable(), n < 9 ? 0 : 1);
            check.due("the rest", x.flush(PLENTY), 9 - due);
            check.due("durable after the rest", x.durable(), 1);
        }
    }

    private static void flushAsFarAsThereAre() {
        check.part("as far as there are any");
        for (int n : new int[] {2, 3, 1 << 30, MAX - 1, MAX}) {
            BehindStore x = new BehindStore();
            Stores.commitKeys(x, 0b1, 1);
            x.seal();
            Stores.commitKeys(x, 0b10, 2);
            check.due("flush " + n + " of 2", x.flush(n), 2);
            check.due("the waiting group takes none of them", x.durable(), 1);
            check.due("and is not sealed", x.stepsLeft(), 0);
            check.due("but waits", x.seal(), 2);
            x.flush(1);
            check.due("flush " + n + " of 1", x.flush(n), 1);
            check.due("durable", x.durable(), 2);
        }
    }

    private static void flushNothing() {
        check.part("flush when there is no flushing group");
        for (String state : new String[] {
                "new", "four open", "waiting", "waiting, four open", "durable", "crashed",
                "crashed, four open"}) {
            for (int n : new int[] {1, 2, PLENTY, MAX}) {
                changesNothing("flush " + n, state, x -> x.flush(n), 0);
            }
        }
    }

    private static void flushLastStep() {
        check.part("With the last step the flushing group becomes durable and there is none any more");
        BehindStore x = new BehindStore();
        Stores.commitKeys(x, 0b11, 1);
        Stores.commitKeys(x, 0b10, 2);
        x.seal();
        for (int left = 3; left >= 1; left--) {
            x.flush(1);
            check.due("steps left", x.stepsLeft(), left);
            check.due("durable", x.durable(), 0);
            check.due("safeValue", x.safeValue(0), 0);
            check.due("seal", x.seal(), BUSY);
        }
        check.due("last step", x.flush(1), 1);
        check.due("durable", x.durable(), 2);
        check.due("safeValue of the first", x.safeValue(0), 1);
        check.due("safeValue of the second", x.safeValue(1), 2);
        check.due("stepsLeft", x.stepsLeft(), 0);
        check.due("flush", x.flush(1), 0);
        check.due("seal", x.seal(), NONE);
    }

    // Promise 9

    private static void stepsLeftWithoutGroup() {
        check.part("stepsLeft: 0 when there is none");
        for (String state : new String[] {
                "new", "four open", "waiting", "waiting, four open", "durable", "crashed",
                "crashed, four open"}) {
            changesNothing("stepsLeft", state, x -> x.stepsLeft(), 0);
        }
        BehindStore x = Stores.in(STATES.get("one step before the end"));
        x.crash();
        check.due("after a crash one step before the end", x.stepsLeft(), 0);
    }

    private static void stepsLeftToTheLast() {
        check.part("The steps that are left for the flushing group");
        BehindStore x = new BehindStore();
        Stores.commitKeys(x, 0xff, 1);
        check.due("as seal answers", x.seal(), 9);
        for (int left = 9; left >= 1; left--) {
            check.due("stepsLeft", x.stepsLeft(), left);
            Stores.commitKeys(x, 0b1, left);
            check.due("a commit adds none", x.stepsLeft(), left);
            x.flush(1);
        }
        check.due("none", x.stepsLeft(), 0);
        check.due("nine waited", x.seal(), 10);
        check.due("stepsLeft", x.stepsLeft(), 10);
    }

    // Promise 10

    private static void crashEachState() {
        check.part("afterwards the commits are exactly the durable ones");
        for (String state : STATES.keySet()) {
            String where = " (" + state + ")";
            BehindStore x = Stores.in(STATES.get(state));
            int durable = x.durable();
            x.crash();
            check.due("commits" + where, x.commits(), durable);
            check.due("durable" + where, x.durable(), durable);
            check.due("open" + where, x.open(), 0);
            check.due("stepsLeft" + where, x.stepsLeft(), 0);
            for (int t = 0; t < 4; t++) {
                check.due("conflicts" + where, x.conflicts(t), 0);
                check.due("read" + where, x.read(t, 0), 0);
                check.due("write" + where, x.write(t, 0, 1), NONE);
                check.due("abort" + where, x.abort(t), NONE);
                check.due("commit" + where, x.commit(t), NONE);
            }
            check.due("flush" + where, x.flush(PLENTY), 0);
            check.due("seal" + where, x.seal(), NONE);
            for (int t = 0; t < 4; t++) {
                check.due("begin" + where, x.begin(), t);
                for (int key = 0; key < 8; key++) {
                    check.due("snapshot" + where, x.read(t, key), x.safeValue(key));
                }
            }
            for (int t = 0; t < 4; t++) {
                check.due("commit of none" + where, x.commit(t), OK);
            }
            check.due("commits" + where, x.commits(), durable);
        }
    }

    private static void crashTwice() {
        check.part("a crash with nothing to lose");
        for (String state : new String[] {"new", "durable", "crashed"}) {
            Stores.Calls before = STATES.get(state);
            check.isTrue("it changes nothing (" + state + ")",
                Stores.seenAfter(before, x -> x.crash())
                    .equals(Stores.seenAfter(before, x -> { })));
        }
        for (String state : STATES.keySet()) {
            Stores.Calls before = STATES.get(state);
            check.isTrue("two are as one (" + state + ")",
                Stores.seenAfter(before, x -> {
                    x.crash();
                    x.crash();
                }).equals(Stores.seenAfter(before, x -> x.crash())));
        }
    }

    // Promises 11 and 12

    private static void commitsCountsEachGroup() {
        check.part("The number of commits");
        BehindStore x = new BehindStore();
        Stores.commitKeys(x, 0b1, 1);
        check.due("waiting", x.commits(), 1);
        x.seal();
        check.due("flushing", x.commits(), 1);
        Stores.commitKeys(x, 0xff, 1);
        check.due("flushing and waiting", x.commits(), 2);
        x.flush(2);
        check.due("durable and waiting", x.commits(), 2);
        x.seal();
        Stores.commitKeys(x, 0b1, 1);
        check.due("durable, flushing and waiting", x.commits(), 3);
        x.begin();
        x.write(0, 0, 1);
        check.due("an open one is none", x.commits(), 3);
        x.crash();
        check.due("lost ones are none", x.commits(), 1);
    }

    private static void durableAtTheLastStep() {
        check.part("The number of durable commits");
        BehindStore x = new BehindStore();
        Stores.commitKeys(x, 0b1, 1);
        Stores.commitKeys(x, 0b1, 2);
        check.due("waiting", x.durable(), 0);
        x.seal();
        Stores.commitKeys(x, 0b1, 3);
        x.flush(2);
        check.due("one step before the end", x.durable(), 0);
        x.flush(1);
        check.due("after the last", x.durable(), 2);
        x.crash();
        check.due("after a crash", x.durable(), 2);
    }

    // Promises 13 and 14

    private static void valueNotKey() {
        check.part("value: 0 when key is not 0 .. 7");
        for (int key : Stores.NOT_KEYS) {
            changesNothingAnywhere("value of " + key, x -> x.value(key), 0);
        }
    }

    private static void valueAfterAllCommits() {
        check.part("The value of key after all commits");
        for (int key = 0; key < 8; key++) {
            BehindStore x = new BehindStore();
            Stores.commitKeys(x, 0xff, 1);
            x.seal();
            x.flush(PLENTY);
            Stores.commitKeys(x, 1 << key, 2);
            x.seal();
            check.due("flushing", x.value(key), 2);
            Stores.commitKeys(x, 1 << key, 0);
            check.due("waiting, back to 0", x.value(key), 0);
            check.due("its neighbour", x.value(key ^ 1), 1);
            x.flush(PLENTY);
            check.due("after the flush of what came before", x.value(key), 0);
            x.begin();
            x.write(0, key, 4);
            check.due("an open write", x.value(key), 0);
        }
    }

    private static void safeValueNotKey() {
        check.part("safeValue: 0 when key is not 0 .. 7");
        for (int key : Stores.NOT_KEYS) {
            changesNothingAnywhere("safeValue of " + key, x -> x.safeValue(key), 0);
        }
    }

    private static void safeValueIsWhatACrashLeaves() {
        check.part("The value that key would have right after a crash now");
        for (String state : STATES.keySet()) {
            for (int key = 0; key < 8; key++) {
                BehindStore x = Stores.in(STATES.get(state));
                int foretold = x.safeValue(key);
                x.crash();
                check.due("key " + key + " (" + state + ")", x.value(key), foretold);
            }
        }
        BehindStore x = new BehindStore();
        Stores.commitKeys(x, 0xff, 1);
        x.seal();
        x.flush(8);
        check.due("one step before the end", x.safeValue(0), 0);
        Stores.commitKeys(x, 0xff, 2);
        x.flush(1);
        for (int key = 0; key < 8; key++) {
            check.due("after the last step, what waits is not safe", x.safeValue(key), 1);
        }
    }

    // Promise 15

    private static void conflictsBits() {
        check.part("bit k for key k");
        for (int mask = 0; mask < 256; mask++) {
            BehindStore x = Stores.withAllOpen();
            Stores.writeKeys(x, 0, mask, 1);
            Stores.writeKeys(x, 1, 0xff, 2);
            Stores.writeKeys(x, 2, 0b01100110, 2);
            x.commit(0);
            check.due("all written by t, " + mask + " by the other", x.conflicts(1), mask);
            check.due("some written by t", x.conflicts(2), mask & 0b01100110);
            check.due("none written by t", x.conflicts(3), 0);
        }
        BehindStore y = Stores.withAllOpen();
        Stores.writeKeys(y, 3, 0xff, 1);
        y.abort(0);
        for (int key = 0; key < 8; key++) {
            Stores.commitKeys(y, 1 << key, 1);
            check.due("one commit more", y.conflicts(3), (2 << key) - 1);
        }
    }

    private static void conflictsForetellCommit() {
        check.part("for which a commit of transaction t would meet a conflict now");
        for (String state : STATES.keySet()) {
            for (int t = 0; t < 4; t++) {
                if (isOpen(state, t)) {
                    BehindStore x = Stores.in(STATES.get(state));
                    boolean foretold = x.conflicts(t) != 0;
                    check.due("commit of " + t + " (" + state + ")", x.commit(t),
                        foretold ? CONFLICT : OK);
                }
            }
        }
        for (int t = 0; t < 4; t++) {
            int asked = t;
            for (String state : STATES.keySet()) {
                int due = Stores.in(STATES.get(state)).conflicts(t);
                changesNothing("conflicts", state, x -> x.conflicts(asked), due);
            }
        }
    }

    private static void conflictsNotOpen() {
        check.part("conflicts: 0 when t is not open");
        for (int t : Stores.NOT_SLOTS) {
            changesNothingAnywhere("conflicts of " + t, x -> x.conflicts(t), 0);
        }
        for (int end = 0; end < 3; end++) {
            BehindStore x = Stores.withAllOpen();
            Stores.writeKeys(x, 0, 0xff, 1);
            Stores.writeKeys(x, 1, 0xff, 2);
            x.commit(0);
            switch (end) {
                case 0 -> x.abort(1);
                case 1 -> x.commit(1);
                default -> x.crash();
            }
            check.due("of one that committed", x.conflicts(0), 0);
            check.due("of one in conflict that ended", x.conflicts(1), 0);
        }
    }

    // Promise 16

    private static void openBits() {
        check.part("bit t for transaction t");
        for (int mask = 0; mask < 16; mask++) {
            BehindStore x = Stores.withOpen(mask);
            check.due("open", x.open(), mask);
            for (int t = 0; t < 4; t++) {
                boolean isOpen = (mask & (1 << t)) != 0;
                check.due("write by " + t, x.write(t, t, 1), isOpen ? OK : NONE);
            }
            check.due("open after writes", x.open(), mask);
        }
    }
}
