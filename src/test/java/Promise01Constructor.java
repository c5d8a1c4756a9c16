/** Promise 1, sentence by sentence: the sizes are clamped, and a new object is at rest. */
public final class Promise01Constructor {
    private static final int[] PROCESSES = {Integer.MIN_VALUE, -8, -1, 0, 1, 2, 3, 7, 8, 9, 100, Integer.MAX_VALUE};
    private static final int[] FITTING_N = {2, 2, 2, 2, 2, 2, 3, 7, 8, 8, 8, 8};
    private static final int[] SLOTS = {Integer.MIN_VALUE, -9, -1, 0, 7, 8, 9, 31, 32, 33, 100, Integer.MAX_VALUE};
    private static final int[] FITTING_M = {8, 8, 8, 8, 8, 8, 9, 31, 32, 32, 32, 32};

    private static final Check check = new Check();

    public static void main(String[] args) {
        check.section("Promise 1");
        sizesStay();
        processesClamped();
        slotsClamped();
        everyIntAccepted();
        atFirst();
        check.endOfSection();
    }

    private static void sizesStay() {
        check.sentence("EngagementTree(int processes, int slots) fixes N and M");
        EngagementTree x = new EngagementTree(4, 9);
        sizes(x, 4, 9);
        for (int run = 0; run < 3; run++) {
            check.answers(x, "start() = OK");
            sizes(x, 4, 9);
            for (int s = 0; s < 9; s++) {
                check.answers(x, "send(0, 3) = " + s);
                sizes(x, 4, 9);
            }
            for (int s = 0; s < 9; s++) {
                x.deliver(s);
            }
            x.rest(3);
            x.rest(0);
            check.answers(x, "settle() = TREE + RING");
            sizes(x, 4, 9);
        }
    }

    private static void processesClamped() {
        check.sentence("N is processes clamped into 2 .. 8");
        for (int i = 0; i < PROCESSES.length; i++) {
            sizes(new EngagementTree(PROCESSES[i], 8), FITTING_N[i], 8);
            reach(new EngagementTree(PROCESSES[i], 8), FITTING_N[i], 8);
        }
    }

    private static void slotsClamped() {
        check.sentence("M is slots clamped into 8 .. 32");
        for (int i = 0; i < SLOTS.length; i++) {
            sizes(new EngagementTree(2, SLOTS[i]), 2, FITTING_M[i]);
            reach(new EngagementTree(2, SLOTS[i]), 2, FITTING_M[i]);
        }
    }

    private static void everyIntAccepted() {
        check.sentence("Every int is accepted for both");
        for (int i = 0; i < PROCESSES.length; i++) {
            for (int j = 0; j < SLOTS.length; j++) {
                sizes(new EngagementTree(PROCESSES[i], SLOTS[j]), FITTING_N[i], FITTING_M[j]);
                reach(new EngagementTree(PROCESSES[i], SLOTS[j]), FITTING_N[i], FITTING_M[j]);
            }
        }
    }

    private static void atFirst() {
        check.sentence("At first no computation was ever started");
        EngagementTree x = new EngagementTree(8, 32);
        check.answers(x, "token() = NONE", "verdict() = 0", "result(0) = 0", "result(1) = 0", "result(2) = 0");
        for (int p = 0; p < 8; p++) {
            check.answers(x, "state(" + p + ") = NEUTRAL", "parent(" + p + ") = NONE", "deficit(" + p + ") = 0",
                "stained(" + p + ") = false", "tally(" + p + ", 0) = 0", "tally(" + p + ", 1) = 0",
                "tally(" + p + ", 2) = 0");
        }
        for (int s = 0; s < 32; s++) {
            check.answers(x, "note(" + s + ") = 0");
        }
        check.call(x, "passToken() = REFUSED");
        check.call(x, "work(0, 1) = NOT_ACTIVE");
    }

    private static void sizes(EngagementTree x, int n, int m) {
        check.holds("state(" + (n - 1) + ") isn't BAD", x.state(n - 1) != EngagementTree.BAD);
        check.holds("note(" + (m - 1) + ") isn't BAD", x.note(m - 1) != EngagementTree.BAD);
        check.answers(x, "state(" + n + ") = BAD", "deficit(" + n + ") = BAD", "rest(" + n + ") = BAD",
            "note(" + m + ") = BAD", "deliver(" + m + ") = BAD", "state(-1) = BAD", "note(-1) = BAD");
    }

    /** The sizes by what can be done: the last process is reached, the token goes round, the slots are used up. */
    private static void reach(EngagementTree x, int n, int m) {
        check.answers(x, "start() = OK");
        for (int s = 0; s < m; s++) {
            check.answers(x, "send(0, " + (n - 1) + ") = " + s);
        }
        check.answers(x, "send(0, 0) = FULL", "send(0, " + n + ") = BAD", "deliver(" + (m - 1) + ") = HELD",
            "state(" + (n - 1) + ") = ACTIVE", "rest(0) = OK", "passToken() = OK", "token() = " + 2 * (n - 1));
    }
}
