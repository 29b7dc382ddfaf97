/** Each promise by itself: ordinary inputs, the edges it names, and wrong inputs. */
public final class PromisesTest {
    private static final int OK = BehindStore.OK;
    private static final int NONE = BehindStore.NONE;
    private static final int FULL = BehindStore.FULL;
    private static final int CONFLICT = BehindStore.CONFLICT;
    private static final int BUSY = BehindStore.BUSY;

    private static final Check check = new Check();

    public static void main(String[] args) {
        newObject();
        begin();
        write();
        read();
        commit();
        commitConflicts();
        abort();
        seal();
        flush();
        stepsLeft();
        crash();
        crashWhileFlushing();
        commits();
        durable();
        value();
        safeValue();
        conflicts();
        open();
        check.end();
    }

    private static void newObject() {
        check.part("promise 1");
        BehindStore x = new BehindStore();
        check.due("commits", x.commits(), 0);
        check.due("durable", x.durable(), 0);
        check.due("open", x.open(), 0);
        check.due("stepsLeft", x.stepsLeft(), 0);
        for (int key = 0; key < 8; key++) {
            check.due("value " + key, x.value(key), 0);
            check.due("safeValue " + key, x.safeValue(key), 0);
        }
        check.due("flush", x.flush(1), 0);
        check.due("seal", x.seal(), NONE);

        Stores.commitKeys(x, 1, 5);
        BehindStore y = new BehindStore();
        check.due("commits of a second object", y.commits(), 0);
        check.due("value of a second object", y.value(0), 0);
    }

    private static void begin() {
        check.part("promise 2");
        BehindStore x = new BehindStore();
        for (int t = 0; t < 4; t++) {
            check.due("begin", x.begin(), t);
        }
        check.due("fifth begin", x.begin(), FULL);
        check.due("open after FULL", x.open(), 15);
        x.abort(3);
        x.commit(1);
        check.due("begin takes the least", x.begin(), 1);
        check.due("begin takes the next", x.begin(), 3);
        check.due("begin when full again", x.begin(), FULL);

        BehindStore y = new BehindStore();
        y.begin();
        y.write(0, 4, 9);
        y.abort(0);
        y.begin();
        check.due("a reused number has no old write", y.read(0, 4), 0);
        check.due("a reused number commits nothing", y.commit(0), OK);
        check.due("commits", y.commits(), 0);
    }

    private static void write() {
        check.part("promise 3");
        BehindStore x = Stores.withAllOpen();
        check.due("write", x.write(2, 0, 5), OK);
        check.due("write last key", x.write(2, 7, Integer.MIN_VALUE), OK);
        check.due("write again", x.write(2, 0, 6), OK);
        for (int key : Stores.NOT_KEYS) {
            check.due("write to key " + key, x.write(2, key, 1), NONE);
        }
        for (int t : Stores.NOT_SLOTS) {
            check.due("write by " + t, x.write(t, 3, 1), NONE);
        }
        x.abort(1);
        check.due("write by one that ended", x.write(1, 3, 1), NONE);
        check.due("the value before the commit", x.value(0), 0);
        check.due("another one's view", x.read(3, 0), 0);
        check.due("commit", x.commit(2), OK);
        check.due("the last write counts", x.value(0), 6);
        check.due("value of the last key", x.value(7), Integer.MIN_VALUE);
        check.due("wrong writes change nothing", x.value(3), 0);
        check.due("steps of two keys", x.seal(), 3);
        for (int t = 0; t < 4; t++) {
            x.abort(t);
        }
        for (int t = 0; t < 4; t++) {
            check.due("write while none is open", x.write(t, 0, 1), NONE);
        }
    }

    private static void read() {
        check.part("promise 4");
        BehindStore x = new BehindStore();
        Stores.commitKeys(x, 0b11, 5);
        x.begin();
        x.begin();
        check.due("snapshot", x.read(0, 0), 5);
        check.due("snapshot of a key never written", x.read(0, 7), 0);
        x.write(0, 0, 6);
        check.due("own write", x.read(0, 0), 6);
        x.write(0, 0, 7);
        check.due("own last write", x.read(0, 0), 7);
        x.write(0, 1, 0);
        check.due("own write of 0", x.read(0, 1), 0);
        check.due("another one's open write", x.read(1, 0), 5);
        x.commit(0);
        check.due("another one's later commit", x.read(1, 0), 5);
        check.due("after its end", x.read(0, 0), 0);
        x.begin();
        check.due("a new snapshot", x.read(0, 0), 7);
        x.seal();
        x.flush(100);
        check.due("snapshot after a flush", x.read(1, 0), 5);
        for (int key : Stores.NOT_KEYS) {
            check.due("read key " + key, x.read(1, key), 0);
        }
        Stores.commitKeys(x, 0xff, 3);
        x.begin();
        x.begin();
        for (int t : Stores.NOT_SLOTS) {
            check.due("read by " + t, x.read(t, 0), 0);
        }
    }

    private static void commit() {
        check.part("promise 5");
        BehindStore x = Stores.withAllOpen();
        x.write(0, 0, 1);
        check.due("commit", x.commit(0), OK);
        check.due("commits", x.commits(), 1);
        check.due("open", x.open(), 0b1110);
        check.due("commit again", x.commit(0), NONE);
        check.due("commit that wrote none", x.commit(1), OK);
        check.due("commits", x.commits(), 1);
        check.due("open", x.open(), 0b1100);
        check.due("steps of the waiting group", x.seal(), 2);
        check.due("durable before the flush", x.durable(), 0);
        x.begin();
        x.begin();
        for (int t : Stores.NOT_SLOTS) {
            check.due("commit of " + t, x.commit(t), NONE);
        }
        check.due("open after wrong commits", x.open(), 15);

        BehindStore y = new BehindStore();
        y.begin();
        y.write(0, 2, 0);
        check.due("commit of a write that alters no value", y.commit(0), OK);
        check.due("it counts", y.commits(), 1);
        check.due("its steps", y.seal(), 2);

        BehindStore z = new BehindStore();
        z.begin();
        z.write(0, 0, 1);
        Stores.commitKeys(z, 0b10, 7);
        check.due("commit beside a newer one", z.commit(0), OK);
        check.due("its key", z.value(0), 1);
        check.due("the newer one's key is kept", z.value(1), 7);
    }

    private static void commitConflicts() {
        check.part("promise 5, conflicts");
        BehindStore x = Stores.withAllOpen();
        x.write(0, 3, 1);
        x.write(1, 3, 2);
        x.write(1, 4, 2);
        x.write(2, 5, 3);
        x.commit(0);
        check.due("same key", x.commit(1), CONFLICT);
        check.due("open after CONFLICT", x.open(), 0b1100);
        check.due("commit after CONFLICT", x.commit(1), NONE);
        check.due("commits after CONFLICT", x.commits(), 1);
        check.due("contested key", x.value(3), 1);
        check.due("the loser's other key", x.value(4), 0);
        check.due("other key", x.commit(2), OK);
        x.write(3, 4, 9);
        check.due("a refused commit makes no conflict", x.commit(3), OK);
        check.due("steps without the refused commit", x.seal(), 4);

        BehindStore y = Stores.withAllOpen();
        y.write(0, 1, 1);
        y.commit(0);
        y.write(1, 1, 1);
        check.due("written only after the other's commit, same value", y.commit(1), CONFLICT);
        y.read(2, 1);
        check.due("reading makes no conflict", y.commit(2), OK);
        y.begin();
        y.write(0, 1, 2);
        check.due("begun after the other's commit", y.commit(0), OK);
        y.seal();
        y.flush(100);
        y.write(3, 1, 4);
        check.due("with a commit that is durable by now", y.commit(3), CONFLICT);

        BehindStore z = Stores.withAllOpen();
        z.write(0, 1, 1);
        z.abort(0);
        z.write(1, 1, 2);
        check.due("with one that was aborted", z.commit(1), OK);
        Stores.commitKeys(z, 0b100, 1);
        z.write(2, 1, 3);
        check.due("with a commit that is not the newest", z.commit(2), CONFLICT);
    }

    private static void abort() {
        check.part("promise 6");
        BehindStore x = Stores.withAllOpen();
        x.write(1, 2, 5);
        check.due("abort", x.abort(1), OK);
        check.due("open", x.open(), 0b1101);
        check.due("abort again", x.abort(1), NONE);
        check.due("commit after abort", x.commit(1), NONE);
        check.due("commits", x.commits(), 0);
        check.due("value", x.value(2), 0);
        check.due("seal", x.seal(), NONE);
        check.due("abort of one that wrote none", x.abort(0), OK);
        x.begin();
        x.begin();
        for (int t : Stores.NOT_SLOTS) {
            check.due("abort of " + t, x.abort(t), NONE);
        }
        check.due("open after wrong aborts", x.open(), 15);
    }

    private static void seal() {
        check.part("promise 7");
        BehindStore x = new BehindStore();
        check.due("nothing waits", x.seal(), NONE);
        check.due("stepsLeft after NONE", x.stepsLeft(), 0);
        x.begin();
        x.write(0, 1, 1);
        check.due("only an open transaction", x.seal(), NONE);
        x.write(0, 1, 2);
        x.write(0, 2, 2);
        x.commit(0);
        Stores.commitKeys(x, 0b110, 3);
        Stores.commitKeys(x, 0, 0);
        check.due("a key counts once in each transaction", x.seal(), 5);
        check.due("busy, nothing waiting", x.seal(), BUSY);
        Stores.commitKeys(x, 0b1000, 4);
        check.due("busy, one waiting", x.seal(), BUSY);
        check.due("stepsLeft after BUSY", x.stepsLeft(), 5);
        x.flush(4);
        check.due("busy before the last step", x.seal(), BUSY);
        x.flush(1);
        check.due("durable without what waited", x.durable(), 2);
        check.due("what waited", x.seal(), 2);
        x.flush(2);
        check.due("all is durable", x.seal(), NONE);
        check.due("durable", x.durable(), 3);
        Stores.commitKeys(x, 0xff, 5);
        check.due("all keys", x.seal(), 9);
    }

    private static void flush() {
        check.part("promise 8");
        BehindStore x = new BehindStore();
        check.due("nothing flushing", x.flush(5), 0);
        Stores.commitKeys(x, 0b111, 1);
        check.due("only waiting", x.flush(5), 0);
        x.seal();
        check.due("0 steps", x.flush(0), 0);
        check.due("-1 steps", x.flush(-1), 0);
        check.due("least int", x.flush(Integer.MIN_VALUE), 0);
        check.due("stepsLeft", x.stepsLeft(), 4);
        check.due("2 steps", x.flush(2), 2);
        check.due("1 step", x.flush(1), 1);
        check.due("durable before the last step", x.durable(), 0);
        check.due("safeValue before the last step", x.safeValue(0), 0);
        Stores.commitKeys(x, 0b1, 2);
        check.due("more than are left", x.flush(3), 1);
        check.due("durable", x.durable(), 1);
        check.due("safeValue without what waits", x.safeValue(0), 1);
        check.due("nothing flushing any more", x.flush(1), 0);
        x.seal();
        check.due("greatest int", x.flush(Integer.MAX_VALUE), 2);
        check.due("durable", x.durable(), 2);
        Stores.commitKeys(x, 0b11, 3);
        x.seal();
        check.due("exactly all", x.flush(3), 3);
        check.due("durable", x.durable(), 3);
        check.due("safeValue", x.safeValue(1), 3);
    }

    private static void stepsLeft() {
        check.part("promise 9");
        BehindStore x = new BehindStore();
        check.due("new", x.stepsLeft(), 0);
        Stores.commitKeys(x, 0b11, 1);
        check.due("waiting only", x.stepsLeft(), 0);
        x.seal();
        check.due("sealed", x.stepsLeft(), 3);
        Stores.commitKeys(x, 0b11, 2);
        check.due("a later commit adds none", x.stepsLeft(), 3);
        x.flush(1);
        check.due("one step taken", x.stepsLeft(), 2);
        x.flush(-7);
        check.due("no step taken", x.stepsLeft(), 2);
        x.flush(9);
        check.due("flushed", x.stepsLeft(), 0);
        x.seal();
        x.crash();
        check.due("crashed", x.stepsLeft(), 0);
    }

    private static void crash() {
        check.part("promise 10");
        BehindStore x = new BehindStore();
        x.crash();
        check.due("commits of a new object", x.commits(), 0);
        Stores.commitKeys(x, 0b11, 1);
        x.seal();
        x.flush(3);
        Stores.commitKeys(x, 0b101, 2);
        x.begin();
        x.begin();
        x.write(1, 1, 9);
        x.crash();
        check.due("open", x.open(), 0);
        check.due("write", x.write(1, 1, 9), NONE);
        check.due("read", x.read(1, 1), 0);
        check.due("commit", x.commit(1), NONE);
        check.due("abort", x.abort(0), NONE);
        check.due("conflicts", x.conflicts(1), 0);
        check.due("commits", x.commits(), 1);
        check.due("durable", x.durable(), 1);
        check.due("key written again", x.value(0), 1);
        check.due("durable key", x.value(1), 1);
        check.due("key that was lost", x.value(2), 0);
        check.due("the waiting group is lost", x.seal(), NONE);
        check.due("begin", x.begin(), 0);
        check.due("snapshot", x.read(0, 0), 1);
        x.write(0, 0, 3);
        check.due("no conflict with a lost commit", x.commit(0), OK);
        check.due("the number after the durable ones", x.commits(), 2);
        check.due("steps without lost writes", x.seal(), 2);
        x.flush(2);
        x.crash();
        x.crash();
        check.due("durable twice crashed", x.durable(), 2);
        check.due("value twice crashed", x.value(0), 3);
    }

    private static void crashWhileFlushing() {
        check.part("promise 10, flushing");
        BehindStore x = new BehindStore();
        Stores.commitKeys(x, 0b1111, 1);
        x.seal();
        Stores.commitKeys(x, 0b1, 2);
        x.flush(4);
        x.crash();
        check.due("commits", x.commits(), 0);
        check.due("value", x.value(3), 0);
        check.due("safeValue", x.safeValue(3), 0);
        check.due("flush", x.flush(1), 0);
        check.due("durable", x.durable(), 0);
        check.due("seal", x.seal(), NONE);
        Stores.commitKeys(x, 0b10, 5);
        check.due("seal of what came after", x.seal(), 2);
        x.flush(2);
        check.due("durable", x.durable(), 1);
        check.due("safeValue of a lost key", x.safeValue(0), 0);
        check.due("safeValue of the new key", x.safeValue(1), 5);

        BehindStore y = Stores.withAllOpen();
        Stores.commitKeys(y, 0b1, 1);
        y.write(2, 0, 4);
        y.write(3, 0, 4);
        y.crash();
        for (int t = 0; t < 4; t++) {
            check.due("begin", y.begin(), t);
        }
        check.due("a write before the crash is gone", y.read(2, 0), 0);
        y.write(3, 0, 8);
        check.due("a conflict before the crash is gone", y.conflicts(3), 0);
        check.due("commit of none", y.commit(2), OK);
        check.due("commits", y.commits(), 0);
    }

    private static void commits() {
        check.part("promise 11");
        BehindStore x = new BehindStore();
        for (int i = 1; i <= 20; i++) {
            Stores.commitKeys(x, 0b1, i);
            check.due("commits", x.commits(), i);
        }
        x.seal();
        check.due("sealed ones count", x.commits(), 20);
        Stores.commitKeys(x, 0b1, 0);
        x.flush(100);
        check.due("durable ones count", x.commits(), 21);
        x.crash();
        check.due("lost ones do not", x.commits(), 20);
    }

    private static void durable() {
        check.part("promise 12");
        BehindStore x = new BehindStore();
        Stores.commitKeys(x, 0b1, 1);
        Stores.commitKeys(x, 0b1, 2);
        check.due("waiting", x.durable(), 0);
        x.seal();
        Stores.commitKeys(x, 0b1, 3);
        x.flush(2);
        check.due("flushing", x.durable(), 0);
        x.flush(1);
        check.due("flushed", x.durable(), 2);
        x.crash();
        check.due("crashed", x.durable(), 2);
        Stores.commitKeys(x, 0b1, 4);
        x.seal();
        x.flush(2);
        check.due("flushed again", x.durable(), 3);
    }

    private static void value() {
        check.part("promise 13");
        BehindStore x = new BehindStore();
        Stores.commitKeys(x, 0xff, 1);
        Stores.commitKeys(x, 0b10000001, -2);
        check.due("first key", x.value(0), -2);
        check.due("last key", x.value(7), -2);
        check.due("key of the first commit", x.value(6), 1);
        x.begin();
        x.write(0, 6, 9);
        check.due("an open write", x.value(6), 1);
        x.seal();
        check.due("sealed", x.value(0), -2);
        Stores.commitKeys(x, 0b1, 5);
        x.flush(100);
        check.due("a flush keeps what waits", x.value(0), 5);
        for (int key : Stores.NOT_KEYS) {
            check.due("value of key " + key, x.value(key), 0);
        }
    }

    private static void safeValue() {
        check.part("promise 14");
        BehindStore x = new BehindStore();
        Stores.commitKeys(x, 0xff, 1);
        check.due("waiting", x.safeValue(0), 0);
        x.seal();
        Stores.commitKeys(x, 0b1, 2);
        check.due("flushing", x.safeValue(0), 0);
        x.flush(8);
        check.due("one step before the end", x.safeValue(0), 0);
        x.flush(1);
        for (int key = 0; key < 8; key++) {
            check.due("flushed", x.safeValue(key), 1);
        }
        for (int key : Stores.NOT_KEYS) {
            check.due("safeValue of key " + key, x.safeValue(key), 0);
        }
        check.due("asking is no crash", x.value(0), 2);
        x.crash();
        check.due("after the crash", x.value(0), 1);
        check.due("safeValue after the crash", x.safeValue(0), 1);
    }

    private static void conflicts() {
        check.part("promise 15");
        BehindStore x = Stores.withAllOpen();
        x.write(0, 0, 1);
        x.write(0, 7, 1);
        x.write(1, 0, 2);
        x.write(1, 1, 2);
        x.write(1, 7, 2);
        check.due("before any commit", x.conflicts(1), 0);
        x.commit(0);
        check.due("first and last key", x.conflicts(1), 0b10000001);
        check.due("asking changes nothing", x.conflicts(1), 0b10000001);
        check.due("of one that ended", x.conflicts(0), 0);
        check.due("of one that wrote none", x.conflicts(2), 0);
        x.write(2, 7, 3);
        check.due("after its write", x.conflicts(2), 0b10000000);
        x.write(3, 1, 4);
        x.commit(3);
        check.due("two commits", x.conflicts(1), 0b10000011);
        x.begin();
        x.write(0, 0, 5);
        check.due("of a new one", x.conflicts(0), 0);
        x.begin();
        x.write(3, 0, 6);
        x.commit(3);
        check.due("of the new one, overtaken", x.conflicts(0), 1);
        x.begin();
        for (int t : Stores.NOT_SLOTS) {
            check.due("conflicts of " + t, x.conflicts(t), 0);
        }
        x.abort(1);
        check.due("of one that was aborted", x.conflicts(1), 0);
        x.seal();
        x.flush(100);
        check.due("after a flush", x.conflicts(2), 0b10000000);
    }

    private static void open() {
        check.part("promise 16");
        BehindStore x = new BehindStore();
        check.due("none", x.open(), 0);
        x.begin();
        check.due("one", x.open(), 1);
        x.begin();
        x.begin();
        x.begin();
        check.due("four", x.open(), 15);
        x.begin();
        check.due("still four", x.open(), 15);
        x.abort(0);
        check.due("after abort", x.open(), 14);
        x.write(2, 0, 1);
        x.write(3, 0, 1);
        x.commit(2);
        check.due("after commit", x.open(), 10);
        x.commit(3);
        check.due("after CONFLICT", x.open(), 2);
        x.seal();
        x.flush(9);
        check.due("after a flush", x.open(), 2);
        x.crash();
        check.due("after a crash", x.open(), 0);
    }
}
