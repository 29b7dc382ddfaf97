/** A store of eight keys with transactions, group commit and crashes. */
public final class BehindStore {
    public static final int OK = 0;
    public static final int NONE = -1;
    public static final int FULL = -2;
    public static final int CONFLICT = -3;
    public static final int BUSY = -4;

    private static final int KEYS = 8;
    private static final int SLOTS = 4;
    private static final int CELLS = 32; // SLOTS rows of KEYS

    // The states that later calls can ask for: after all commits, after the
    // flushing group, and after the durable commits. Every crash falls back to
    // the last of these, so no history of single commits is needed.
    private final int[] latest = new int[KEYS];
    private final int[] flushing = new int[KEYS];
    private final int[] safe = new int[KEYS];

    private int latestCount = 0;
    private int flushingCount = 0;
    private int safeCount = 0;

    // Keys written, summed over the transactions of the waiting group. A commit
    // writes at least one key, so this is 0 exactly when the group is empty.
    private int waitingWrites = 0;

    // 0 exactly when there is no flushing group.
    private int stepsToGo = 0;

    private int openMask = 0;

    // Row t is what transaction t sees: its snapshot under its own writes. A
    // write is never taken back, so the value beneath it need not be kept.
    private final int[] seen = new int[CELLS];

    // For each transaction, the keys it wrote and the keys that others have
    // committed since it began.
    private final int[] wroteMask = new int[SLOTS];
    private final int[] overtakenMask = new int[SLOTS];

    public BehindStore() {
    }

    public int begin() {
        for (int t = 0; t < SLOTS; t++) {
            if (!isOpen(t)) {
                start(t);
                return t;
            }
        }
        return FULL;
    }

    public int write(int t, int key, int v) {
        if (!isOpen(t) || !isKey(key)) {
            return NONE;
        }
        seen[t * KEYS + key] = v;
        wroteMask[t] |= 1 << key;
        return OK;
    }

    public int read(int t, int key) {
        if (!isOpen(t) || !isKey(key)) {
            return 0;
        }
        return seen[t * KEYS + key];
    }

    public int commit(int t) {
        if (!isOpen(t)) {
            return NONE;
        }
        close(t);
        if ((wroteMask[t] & overtakenMask[t]) != 0) {
            return CONFLICT;
        }
        if (wroteMask[t] != 0) {
            applyWrites(t);
            overtakeAll(wroteMask[t]);
            latestCount++;
        }
        return OK;
    }

    public int abort(int t) {
        if (!isOpen(t)) {
            return NONE;
        }
        close(t);
        return OK;
    }

    public int seal() {
        if (stepsToGo != 0) {
            return BUSY;
        }
        if (waitingWrites == 0) {
            return NONE;
        }
        copyState(latest, flushing);
        flushingCount = latestCount;
        stepsToGo = waitingWrites + 1;
        waitingWrites = 0;
        return stepsToGo;
    }

    public int flush(int n) {
        if (n <= 0 || stepsToGo == 0) {
            return 0;
        }
        if (n < stepsToGo) {
            stepsToGo -= n;
            return n;
        }
        int taken = stepsToGo;
        stepsToGo = 0;
        copyState(flushing, safe);
        safeCount = flushingCount;
        return taken;
    }

    public int stepsLeft() {
        return stepsToGo;
    }

    public void crash() {
        copyState(safe, latest);
        latestCount = safeCount;
        waitingWrites = 0;
        stepsToGo = 0;
        openMask = 0;
    }

    public int commits() {
        return latestCount;
    }

    public int durable() {
        return safeCount;
    }

    public int value(int key) {
        return isKey(key) ? latest[key] : 0;
    }

    public int safeValue(int key) {
        return isKey(key) ? safe[key] : 0;
    }

    public int conflicts(int t) {
        return isOpen(t) ? wroteMask[t] & overtakenMask[t] : 0;
    }

    public int open() {
        return openMask;
    }

    private static boolean isKey(int key) {
        return key >= 0 && key < KEYS;
    }

    // The range comes first: a shift takes its distance modulo 32, so a number
    // such as 32 would pass for transaction 0.
    private boolean isOpen(int t) {
        return t >= 0 && t < SLOTS && (openMask & (1 << t)) != 0;
    }

    private void start(int t) {
        openMask |= 1 << t;
        wroteMask[t] = 0;
        overtakenMask[t] = 0;
        for (int key = 0; key < KEYS; key++) {
            seen[t * KEYS + key] = latest[key];
        }
    }

    private void close(int t) {
        openMask &= ~(1 << t);
    }

    private void applyWrites(int t) {
        for (int key = 0; key < KEYS; key++) {
            if ((wroteMask[t] & (1 << key)) != 0) {
                latest[key] = seen[t * KEYS + key];
                waitingWrites++;
            }
        }
    }

    // Slots that are not open are marked too: start clears the mark.
    private void overtakeAll(int keyMask) {
        for (int t = 0; t < SLOTS; t++) {
            overtakenMask[t] |= keyMask;
        }
    }

    private static void copyState(int[] from, int[] to) {
        for (int key = 0; key < KEYS; key++) {
            to[key] = from[key];
        }
    }
}
