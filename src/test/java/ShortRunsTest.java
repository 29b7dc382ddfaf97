/**
 * Every run of CALLS calls out of twelve, against History: two transactions and two keys
 * are enough for each thing that the document names to meet each other.
 */
public final class ShortRunsTest {
    private static final int CALLS = 6;
    private static final String[] KINDS = {
        "begin()", "write(0, 0, 1)", "write(0, 1, 0)", "write(1, 0, 2)", "write(1, 1, 3)",
        "commit(0)", "commit(1)", "abort(0)", "seal()", "flush(1)", "flush(2)", "crash()"};

    private static final Check check = new Check();

    public static void main(String[] args) {
        int runs = 1;
        for (int call = 0; call < CALLS; call++) {
            runs *= KINDS.length;
        }
        // One fault shows in very many of the runs: the first one tells enough.
        for (int run = 0; run < runs && check.allAsDue(); run++) {
            run(run);
        }
        check.end();
    }

    // The digits of the number, to the base of all kinds, are the calls. It is asked only
    // at the end: a shorter run is the end of one that begins with calls that are refused.
    private static void run(int number) {
        check.part("run " + number);
        BehindStore x = new BehindStore();
        History h = new History();
        int rest = number;
        for (int call = 0; call < CALLS; call++) {
            int kind = rest % KINDS.length;
            check.due(KINDS[kind], made(x, kind), due(h, kind));
            rest /= KINDS.length;
        }
        ask(x, h);
        if (!check.allAsDue()) {
            tell(number);
        }
    }

    private static void tell(int number) {
        System.out.println("the calls of run " + number + ":");
        int rest = number;
        for (int call = 0; call < CALLS; call++) {
            System.out.println("  " + KINDS[rest % KINDS.length]);
            rest /= KINDS.length;
        }
    }

    private static int made(BehindStore x, int kind) {
        switch (kind) {
            case 0: return x.begin();
            case 1: return x.write(0, 0, 1);
            case 2: return x.write(0, 1, 0);
            case 3: return x.write(1, 0, 2);
            case 4: return x.write(1, 1, 3);
            case 5: return x.commit(0);
            case 6: return x.commit(1);
            case 7: return x.abort(0);
            case 8: return x.seal();
            case 9: return x.flush(1);
            case 10: return x.flush(2);
            default: x.crash();
        }
        return 0;
    }

    private static int due(History h, int kind) {
        switch (kind) {
            case 0: return h.begin();
            case 1: return h.write(0, 0, 1);
            case 2: return h.write(0, 1, 0);
            case 3: return h.write(1, 0, 2);
            case 4: return h.write(1, 1, 3);
            case 5: return h.commit(0);
            case 6: return h.commit(1);
            case 7: return h.abort(0);
            case 8: return h.seal();
            case 9: return h.flush(1);
            case 10: return h.flush(2);
            default: h.crash();
        }
        return 0;
    }

    private static void ask(BehindStore x, History h) {
        check.due("commits()", x.commits(), h.commits());
        check.due("durable()", x.durable(), h.durable());
        check.due("stepsLeft()", x.stepsLeft(), h.stepsLeft());
        check.due("open()", x.open(), h.open());
        for (int i = 0; i < 2; i++) {
            check.due("value", x.value(i), h.value(i));
            check.due("safeValue", x.safeValue(i), h.safeValue(i));
            check.due("conflicts", x.conflicts(i), h.conflicts(i));
            check.due("read by 0", x.read(0, i), h.read(0, i));
            check.due("read by 1", x.read(1, i), h.read(1, i));
        }
    }
}
