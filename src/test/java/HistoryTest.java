import java.util.Random;

/** Long mixed runs against History. The seeds are fixed, so every run is the same. */
public final class HistoryTest {
    private static final int RUNS = 3000;
    private static final int CALLS = 512;

    private static final Check check = new Check();

    public static void main(String[] args) {
        for (int seed = 0; seed < RUNS; seed++) {
            run(seed);
        }
        check.end();
    }

    private static void run(int seed) {
        Random random = new Random(seed);
        BehindStore x = new BehindStore();
        History h = new History();
        // Runs differ in how far they get between crashes.
        int crashOdds = 1 + seed % 4 * 3;
        for (int call = 0; call < CALLS; call++) {
            check.part("seed " + seed + ", call " + call);
            int t = random.nextInt(16) == 0 ? random.nextInt(8) - 2 : random.nextInt(4);
            int key = random.nextInt(16) == 0 ? random.nextInt(12) - 2 : random.nextInt(8);
            change(x, h, random, t, key, crashOdds);
            call++;
            ask(x, h, random.nextInt(9), t, key);
        }
    }

    private static void change(BehindStore x, History h, Random random, int t, int key, int crashOdds) {
        int kind = random.nextInt(200);
        if (kind < 45) {
            check.due("begin()", x.begin(), h.begin());
        } else if (kind < 110) {
            int v = random.nextInt(5) - 1;
            check.due("write(" + t + ", " + key + ", " + v + ")", x.write(t, key, v), h.write(t, key, v));
        } else if (kind < 145) {
            check.due("commit(" + t + ")", x.commit(t), h.commit(t));
        } else if (kind < 150) {
            check.due("abort(" + t + ")", x.abort(t), h.abort(t));
        } else if (kind < 165) {
            check.due("seal()", x.seal(), h.seal());
        } else if (kind < 200 - crashOdds) {
            int n = random.nextInt(9) - 2;
            check.due("flush(" + n + ")", x.flush(n), h.flush(n));
        } else {
            x.crash();
            h.crash();
        }
    }

    private static void ask(BehindStore x, History h, int kind, int t, int key) {
        switch (kind) {
            case 0 -> check.due("read(" + t + ", " + key + ")", x.read(t, key), h.read(t, key));
            case 1 -> check.due("stepsLeft()", x.stepsLeft(), h.stepsLeft());
            case 2 -> check.due("commits()", x.commits(), h.commits());
            case 3 -> check.due("durable()", x.durable(), h.durable());
            case 4, 5 -> check.due("value(" + key + ")", x.value(key), h.value(key));
            case 6 -> check.due("safeValue(" + key + ")", x.safeValue(key), h.safeValue(key));
            case 7 -> check.due("conflicts(" + t + ")", x.conflicts(t), h.conflicts(t));
            default -> check.due("open()", x.open(), h.open());
        }
    }
}
