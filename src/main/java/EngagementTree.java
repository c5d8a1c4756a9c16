/**
 * A message-driven computation over a few processes, watched by two detectors of its termination:
 * TREE, by acknowledgements, and RING, by a token. The caller decides the order of all deliveries.
 */
public final class EngagementTree {
    public static final int OK = 0;
    public static final int ANNOUNCED = 1;
    public static final int BAD = -1;
    public static final int NONE = -1;
    public static final int NOT_ACTIVE = -2;
    public static final int FULL = -3;
    public static final int REFUSED = -4;
    public static final int BUSY = -5;

    public static final int FREE = 0;
    public static final int FLYING = 1;
    public static final int HELD = 2;
    public static final int REPLYING = 3;

    public static final int NEUTRAL = 0;
    public static final int WAITING = 1;
    public static final int ACTIVE = 2;

    public static final int TREE = 1;
    public static final int RING = 2;

    private static final int FEWEST_PROCESSES = 2;
    private static final int MOST_PROCESSES = 8;
    private static final int FEWEST_SLOTS = 8;
    private static final int MOST_SLOTS = 32;
    private static final int SETTLE_ROUNDS = 3;

    private final int processCount;
    private final int slotCount;

    private final boolean[] active = new boolean[MOST_PROCESSES];
    private final boolean[] stain = new boolean[MOST_PROCESSES];
    private final int[] workDone = new int[MOST_PROCESSES];
    private final int[] notesDelivered = new int[MOST_PROCESSES];
    private final int[] notesSent = new int[MOST_PROCESSES];

    // Sender and receiver mean something only while the slot's stage isn't FREE.
    private final int[] stage = new int[MOST_SLOTS];
    private final int[] sender = new int[MOST_SLOTS];
    private final int[] receiver = new int[MOST_SLOTS];

    private boolean started = false;
    private int announced = 0;
    private int tokenHolder = 0;
    private boolean tokenStained = false;

    public EngagementTree(int processes, int slots) {
        processCount = clamp(processes, FEWEST_PROCESSES, MOST_PROCESSES);
        slotCount = clamp(slots, FEWEST_SLOTS, MOST_SLOTS);
    }

    public int start() {
        if (started && announced != TREE + RING) {
            return REFUSED;
        }
        // The slots need no clearing: TREE is announced only when every slot is FREE.
        for (int p = 0; p < processCount; p++) {
            active[p] = p == 0;
            stain[p] = false;
            workDone[p] = 0;
            notesDelivered[p] = 0;
            notesSent[p] = 0;
        }
        started = true;
        announced = 0;
        tokenHolder = 0;
        tokenStained = true;
        return OK;
    }

    public int work(int p, int amount) {
        if (!isProcess(p)) {
            return BAD;
        }
        if (!active[p]) {
            return NOT_ACTIVE;
        }
        workDone[p] += amount;
        return OK;
    }

    public int send(int p, int q) {
        if (!isProcess(p) || !isProcess(q)) {
            return BAD;
        }
        if (!active[p]) {
            return NOT_ACTIVE;
        }
        int s = lowestSlotAt(FREE);
        if (s == NONE) {
            return FULL;
        }
        stage[s] = FLYING;
        sender[s] = p;
        receiver[s] = q;
        notesSent[p]++;
        return s;
    }

    public int rest(int p) {
        if (!isProcess(p)) {
            return BAD;
        }
        if (!active[p]) {
            return NOT_ACTIVE;
        }
        active[p] = false;
        comeHome(p);
        applyTreeRule();
        return OK;
    }

    public int deliver(int s) {
        if (!isSlot(s)) {
            return BAD;
        }
        if (stage[s] == FLYING) {
            return deliverWork(s);
        }
        if (stage[s] == REPLYING) {
            return deliverAcknowledgement(s);
        }
        return REFUSED;
    }

    public int passToken() {
        if (!started || isAnnounced(RING)) {
            return REFUSED;
        }
        if (active[tokenHolder]) {
            return BUSY;
        }
        if (tokenHolder != 0) {
            passTokenDown();
            return OK;
        }
        if (ringFoundQuiet()) {
            announced |= RING;
            return ANNOUNCED;
        }
        sendTokenRound();
        return OK;
    }

    public int settle() {
        // Each delivered acknowledgement frees a slot and none is taken, so one pass per slot is enough.
        for (int i = 0; i < slotCount; i++) {
            int s = lowestSlotAt(REPLYING);
            if (s == NONE) {
                break;
            }
            deliverAcknowledgement(s);
        }
        int mostPasses = SETTLE_ROUNDS * processCount;
        for (int i = 0; i < mostPasses; i++) {
            if (passToken() != OK) {
                break;
            }
        }
        return announced;
    }

    public int note(int s) {
        if (!isSlot(s)) {
            return BAD;
        }
        if (stage[s] == FREE) {
            return 0;
        }
        return stage[s] * 64 + sender[s] * 8 + receiver[s];
    }

    public int state(int p) {
        if (!isProcess(p)) {
            return BAD;
        }
        if (active[p]) {
            return ACTIVE;
        }
        return isEngaged(p) ? WAITING : NEUTRAL;
    }

    public int parent(int p) {
        int s = heldSlot(p);
        return s == NONE ? NONE : sender[s];
    }

    public int deficit(int p) {
        return isProcess(p) ? unacknowledged(p) : BAD;
    }

    public boolean stained(int p) {
        return isProcess(p) && stain[p];
    }

    public int token() {
        if (!started) {
            return NONE;
        }
        return 2 * tokenHolder + (tokenStained ? 1 : 0);
    }

    public int tally(int p, int what) {
        if (!isProcess(p)) {
            return 0;
        }
        switch (what) {
            case 0:
                return workDone[p];
            case 1:
                return notesDelivered[p];
            case 2:
                return notesSent[p];
            default:
                return 0;
        }
    }

    public int verdict() {
        return announced;
    }

    public int result(int which) {
        if (which == 0 && isAnnounced(TREE)) {
            return sumOverProcesses(workDone);
        }
        if (which == 1 && isAnnounced(TREE)) {
            return maskOfReached();
        }
        if (which == 2 && isAnnounced(RING)) {
            return sumOverProcesses(notesDelivered);
        }
        return 0;
    }

    private static int clamp(int value, int low, int high) {
        if (value < low) {
            return low;
        }
        return value > high ? high : value;
    }

    private boolean isProcess(int p) {
        return p >= 0 && p < processCount;
    }

    private boolean isSlot(int s) {
        return s >= 0 && s < slotCount;
    }

    private boolean isAnnounced(int bit) {
        return (announced & bit) != 0;
    }

    private int lowestSlotAt(int wanted) {
        for (int s = 0; s < slotCount; s++) {
            if (stage[s] == wanted) {
                return s;
            }
        }
        return NONE;
    }

    private int heldSlot(int p) {
        for (int s = 0; s < slotCount; s++) {
            if (stage[s] == HELD && receiver[s] == p) {
                return s;
            }
        }
        return NONE;
    }

    private int unacknowledged(int p) {
        int count = 0;
        for (int s = 0; s < slotCount; s++) {
            if (stage[s] != FREE && sender[s] == p) {
                count++;
            }
        }
        return count;
    }

    // Process 0 is the root: no note drew it in, so it stays engaged until TREE is announced.
    private boolean isEngaged(int p) {
        if (p == 0) {
            return started && !isAnnounced(TREE);
        }
        return heldSlot(p) != NONE;
    }

    private int deliverWork(int s) {
        int q = receiver[s];
        stage[s] = isEngaged(q) ? REPLYING : HELD;
        active[q] = true;
        stain[q] = true;
        notesDelivered[q]++;
        return stage[s];
    }

    private int deliverAcknowledgement(int s) {
        stage[s] = FREE;
        comeHome(sender[s]);
        applyTreeRule();
        return FREE;
    }

    // Process 0 never holds a note, so for it this finds nothing to acknowledge.
    private void comeHome(int p) {
        int s = heldSlot(p);
        if (s != NONE && !active[p] && unacknowledged(p) == 0) {
            stage[s] = REPLYING;
        }
    }

    private void applyTreeRule() {
        if (started && !anyActive() && everySlotFree()) {
            announced |= TREE;
        }
    }

    private boolean anyActive() {
        for (int p = 0; p < processCount; p++) {
            if (active[p]) {
                return true;
            }
        }
        return false;
    }

    private boolean anyStained() {
        for (int p = 0; p < processCount; p++) {
            if (stain[p]) {
                return true;
            }
        }
        return false;
    }

    private boolean everySlotFree() {
        for (int s = 0; s < slotCount; s++) {
            if (stage[s] != FREE) {
                return false;
            }
        }
        return true;
    }

    private boolean ringFoundQuiet() {
        return !tokenStained && !anyStained() && !anyActive() && lowestSlotAt(FLYING) == NONE;
    }

    private void passTokenDown() {
        if (stain[tokenHolder]) {
            tokenStained = true;
        }
        stain[tokenHolder] = false;
        tokenHolder--;
    }

    private void sendTokenRound() {
        tokenStained = false;
        stain[0] = false;
        tokenHolder = processCount - 1;
    }

    private int sumOverProcesses(int[] amounts) {
        int sum = 0;
        for (int p = 0; p < processCount; p++) {
            sum += amounts[p];
        }
        return sum;
    }

    private int maskOfReached() {
        int mask = 1;
        for (int p = 1; p < processCount; p++) {
            if (notesDelivered[p] > 0) {
                mask |= 1 << p;
            }
        }
        return mask;
    }
}
