import java.util.ArrayList;
import java.util.List;
import java.util.Map;
import java.util.Random;
import java.util.TreeMap;

/**
 * Long mixed runs against a second store that keeps the document's terms as they
 * stand: a list of commits, of which a first part is durable, replayed for every
 * answer. The seeds are fixed, so every run is the same.
 */
public final class HistoryTest {
    private static final int RUNS = 3000;
    private static final int CALLS = 512;

    private static final class Transaction {
        final int begunAfter;
        final List<Map<Integer, Integer>> snapshot;
        final Map<Integer, Integer> writes = new TreeMap<>();

        Transaction(List<Map<Integer, Integer>> commits) {
            begunAfter = commits.size();
            snapshot = new ArrayList<>(commits);
        }
    }

    private static final class History {
        final List<Map<Integer, Integer>> commits = new ArrayList<>();
        final Map<Integer, Transaction> open = new TreeMap<>();
        int durable = 0;
        int groupEnd = 0;
        int stepsTaken = 0;

        static boolean isKey(int key) {
            return 0 <= key && key <= 7;
        }

        static int after(List<Map<Integer, Integer>> commits, int count, int key) {
            int v = 0;
            for (Map<Integer, Integer> writes : commits.subList(0, count)) {
                v = writes.getOrDefault(key, v);
            }
            return v;
        }

        int begin() {
            for (int t = 0; t <= 3; t++) {
                if (open.putIfAbsent(t, new Transaction(commits)) == null) {
                    return t;
                }
            }
            return BehindStore.FULL;
        }

        int write(int t, int key, int v) {
            if (!open.containsKey(t) || !isKey(key)) {
                return BehindStore.NONE;
            }
            open.get(t).writes.put(key, v);
            return BehindStore.OK;
        }

        int read(int t, int key) {
            Transaction mine = open.get(t);
            if (mine == null || !isKey(key)) {
                return 0;
            }
            Integer own = mine.writes.get(key);
            return own != null ? own : after(mine.snapshot, mine.snapshot.size(), key);
        }

        int conflicts(int t) {
            Transaction mine = open.get(t);
            int mask = 0;
            if (mine != null) {
                for (Map<Integer, Integer> later : commits.subList(mine.begunAfter, commits.size())) {
                    for (int key : later.keySet()) {
                        mask |= mine.writes.containsKey(key) ? 1 << key : 0;
                    }
                }
            }
            return mask;
        }

        int commit(int t) {
            if (!open.containsKey(t)) {
                return BehindStore.NONE;
            }
            int mask = conflicts(t);
            Transaction ended = open.remove(t);
            if (mask != 0) {
                return BehindStore.CONFLICT;
            }
            if (!ended.writes.isEmpty()) {
                commits.add(ended.writes);
            }
            return BehindStore.OK;
        }

        int abort(int t) {
            return open.remove(t) == null ? BehindStore.NONE : BehindStore.OK;
        }

        int seal() {
            if (groupEnd > durable) {
                return BehindStore.BUSY;
            }
            if (commits.size() == durable) {
                return BehindStore.NONE;
            }
            groupEnd = commits.size();
            stepsTaken = 0;
            return stepsLeft();
        }

        int stepsLeft() {
            if (groupEnd == durable) {
                return 0;
            }
            int steps = 1;
            for (Map<Integer, Integer> writes : commits.subList(durable, groupEnd)) {
                steps += writes.size();
            }
            return steps - stepsTaken;
        }

        int flush(int n) {
            int taken = 0;
            while (taken < n && stepsLeft() > 0) {
                taken++;
                if (stepsLeft() == 1) {
                    durable = groupEnd;
                } else {
                    stepsTaken++;
                }
            }
            return taken;
        }

        void crash() {
            open.clear();
            commits.subList(durable, commits.size()).clear();
            groupEnd = durable;
        }

        int openMask() {
            int mask = 0;
            for (int t : open.keySet()) {
                mask |= 1 << t;
            }
            return mask;
        }
    }

    private static final Check check = new Check();

    public static void main(String[] args) {
        for (int seed = 0; seed < RUNS; seed++) {
            run(seed);
        }
        check.end();
    }

    private static void run(int seed) {
        Random random = new Random(seed);
        BehindStore x = new BehindStore();
        History h = new History();
        // Runs differ in how far they get between crashes.
        int crashOdds = 1 + seed % 4 * 3;
        for (int call = 0; call < CALLS; call++) {
            check.part("seed " + seed + ", call " + call);
            int t = random.nextInt(16) == 0 ? random.nextInt(8) - 2 : random.nextInt(4);
            int key = random.nextInt(16) == 0 ? random.nextInt(12) - 2 : random.nextInt(8);
            change(x, h, random, t, key, crashOdds);
            call++;
            ask(x, h, random.nextInt(9), t, key);
        }
    }

    private static void change(BehindStore x, History h, Random random, int t, int key, int crashOdds) {
        int kind = random.nextInt(200);
        if (kind < 45) {
            check.due("begin()", x.begin(), h.begin());
        } else if (kind < 110) {
            int v = random.nextInt(5) - 1;
            check.due("write(" + t + ", " + key + ", " + v + ")", x.write(t, key, v), h.write(t, key, v));
        } else if (kind < 145) {
            check.due("commit(" + t + ")", x.commit(t), h.commit(t));
        } else if (kind < 150) {
            check.due("abort(" + t + ")", x.abort(t), h.abort(t));
        } else if (kind < 165) {
            check.due("seal()", x.seal(), h.seal());
        } else if (kind < 200 - crashOdds) {
            int n = random.nextInt(9) - 2;
            check.due("flush(" + n + ")", x.flush(n), h.flush(n));
        } else {
            x.crash();
            h.crash();
        }
    }

    private static void ask(BehindStore x, History h, int kind, int t, int key) {
        int all = h.commits.size();
        boolean isKey = History.isKey(key);
        switch (kind) {
            case 0 -> check.due("read(" + t + ", " + key + ")", x.read(t, key), h.read(t, key));
            case 1 -> check.due("stepsLeft()", x.stepsLeft(), h.stepsLeft());
            case 2 -> check.due("commits()", x.commits(), all);
            case 3 -> check.due("durable()", x.durable(), h.durable);
            case 4, 5 -> check.due("value(" + key + ")", x.value(key),
                isKey ? History.after(h.commits, all, key) : 0);
            case 6 -> check.due("safeValue(" + key + ")", x.safeValue(key),
                isKey ? History.after(h.commits, h.durable, key) : 0);
            case 7 -> check.due("conflicts(" + t + ")", x.conflicts(t), h.conflicts(t));
            default -> check.due("open()", x.open(), h.openMask());
        }
    }
}
