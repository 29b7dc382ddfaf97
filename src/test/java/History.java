import java.util.ArrayList;
import java.util.List;
import java.util.Map;
import java.util.TreeMap;

/**
 * A second store that keeps the document's terms as they stand: a list of commits, of
 * which a first part is durable, replayed for every answer.
 */
final class History {
    private static final class Transaction {
        final int begunAfter;
        final List<Map<Integer, Integer>> snapshot;
        final Map<Integer, Integer> writes = new TreeMap<>();

        Transaction(List<Map<Integer, Integer>> commits) {
            begunAfter = commits.size();
            snapshot = new ArrayList<>(commits);
        }
    }

    private final List<Map<Integer, Integer>> commits = new ArrayList<>();
    private final Map<Integer, Transaction> open = new TreeMap<>();
    private int durable = 0;
    private int groupEnd = 0;
    private int stepsTaken = 0;

    private static boolean isKey(int key) {
        return 0 <= key && key <= 7;
    }

    private static int after(List<Map<Integer, Integer>> commits, int key) {
        int v = 0;
        for (Map<Integer, Integer> writes : commits) {
            v = writes.getOrDefault(key, v);
        }
        return v;
    }

    int begin() {
        for (int t = 0; t <= 3; t++) {
            if (open.putIfAbsent(t, new Transaction(commits)) == null) {
                return t;
            }
        }
        return BehindStore.FULL;
    }

    int write(int t, int key, int v) {
        if (!open.containsKey(t) || !isKey(key)) {
            return BehindStore.NONE;
        }
        open.get(t).writes.put(key, v);
        return BehindStore.OK;
    }

    int read(int t, int key) {
        Transaction mine = open.get(t);
        if (mine == null || !isKey(key)) {
            return 0;
        }
        Integer own = mine.writes.get(key);
        return own != null ? own : after(mine.snapshot, key);
    }

    int commit(int t) {
        if (!open.containsKey(t)) {
            return BehindStore.NONE;
        }
        int mask = conflicts(t);
        Transaction ended = open.remove(t);
        if (mask != 0) {
            return BehindStore.CONFLICT;
        }
        if (!ended.writes.isEmpty()) {
            commits.add(ended.writes);
        }
        return BehindStore.OK;
    }

    int abort(int t) {
        return open.remove(t) == null ? BehindStore.NONE : BehindStore.OK;
    }

    int seal() {
        if (groupEnd > durable) {
            return BehindStore.BUSY;
        }
        if (commits.size() == durable) {
            return BehindStore.NONE;
        }
        groupEnd = commits.size();
        stepsTaken = 0;
        return stepsLeft();
    }

    int stepsLeft() {
        if (groupEnd == durable) {
            return 0;
        }
        int steps = 1;
        for (Map<Integer, Integer> writes : commits.subList(durable, groupEnd)) {
            steps += writes.size();
        }
        return steps - stepsTaken;
    }

    int flush(int n) {
        int taken = 0;
        while (taken < n && stepsLeft() > 0) {
            taken++;
            if (stepsLeft() == 1) {
                durable = groupEnd;
            } else {
                stepsTaken++;
            }
        }
        return taken;
    }

    void crash() {
        open.clear();
        commits.subList(durable, commits.size()).clear();
        groupEnd = durable;
    }

    int commits() {
        return commits.size();
    }

    int durable() {
        return durable;
    }

    int value(int key) {
        return isKey(key) ? after(commits, key) : 0;
    }

    int safeValue(int key) {
        return isKey(key) ? after(commits.subList(0, durable), key) : 0;
    }

    int conflicts(int t) {
        Transaction mine = open.get(t);
        int mask = 0;
        if (mine != null) {
            for (Map<Integer, Integer> later : commits.subList(mine.begunAfter, commits.size())) {
                for (int key : later.keySet()) {
                    mask |= mine.writes.containsKey(key) ? 1 << key : 0;
                }
            }
        }
        return mask;
    }

    int open() {
        int mask = 0;
        for (int t : open.keySet()) {
            mask |= 1 << t;
        }
        return mask;
    }
}
