/** Promise 1: the sizes are clamped, and a new object is at rest. */
public final class Promise01Constructor {
    private static final Check check = new Check();

    public static void main(String[] args) {
        int[] processes = {Integer.MIN_VALUE, -1, 0, 1, 2, 3, 7, 8, 9, 100, Integer.MAX_VALUE};
        int[] fittingN = {2, 2, 2, 2, 2, 3, 7, 8, 8, 8, 8};
        int[] slots = {Integer.MIN_VALUE, -1, 0, 7, 8, 9, 31, 32, 33, 100, Integer.MAX_VALUE};
        int[] fittingM = {8, 8, 8, 8, 8, 9, 31, 32, 32, 32, 32};
        for (int i = 0; i < processes.length; i++) {
            for (int j = 0; j < slots.length; j++) {
                sizes(processes[i], slots[j], fittingN[i], fittingM[j]);
            }
        }
        atRest(new EngagementTree(5, 20), 5, 20);
        sizesStayAfterStart();
        check.end();
    }

    private static void sizes(int processes, int slots, int n, int m) {
        EngagementTree x = new EngagementTree(processes, slots);
        String made = "new EngagementTree(" + processes + ", " + slots + ") ";
        check.due(made + "state(" + (n - 1) + ")", x.state(n - 1), EngagementTree.NEUTRAL);
        check.due(made + "state(" + n + ")", x.state(n), EngagementTree.BAD);
        check.due(made + "note(" + (m - 1) + ")", x.note(m - 1), 0);
        check.due(made + "note(" + m + ")", x.note(m), EngagementTree.BAD);
        x.start();
        for (int s = 0; s < m; s++) {
            check.due(made + "send(0, " + (n - 1) + ")", x.send(0, n - 1), s);
        }
        check.due(made + "send(0, 0) at full", x.send(0, 0), EngagementTree.FULL);
        check.due(made + "send(0, " + n + ")", x.send(0, n), EngagementTree.BAD);
    }

    private static void atRest(EngagementTree x, int n, int m) {
        for (int p = 0; p < n; p++) {
            check.due("state(" + p + ")", x.state(p), EngagementTree.NEUTRAL);
            check.due("parent(" + p + ")", x.parent(p), EngagementTree.NONE);
            check.due("deficit(" + p + ")", x.deficit(p), 0);
            check.due("stained(" + p + ")", x.stained(p), false);
            for (int what = 0; what <= 2; what++) {
                check.due("tally(" + p + ", " + what + ")", x.tally(p, what), 0);
            }
        }
        for (int s = 0; s < m; s++) {
            check.due("note(" + s + ")", x.note(s), 0);
        }
        for (int which = 0; which <= 2; which++) {
            check.due("result(" + which + ")", x.result(which), 0);
        }
        check.due("verdict()", x.verdict(), 0);
        check.due("token()", x.token(), EngagementTree.NONE);
    }

    private static void sizesStayAfterStart() {
        EngagementTree x = new EngagementTree(4, 9);
        for (int run = 0; run < 3; run++) {
            check.due("start()", x.start(), EngagementTree.OK);
            check.due("state(3)", x.state(3), EngagementTree.NEUTRAL);
            check.due("state(4)", x.state(4), EngagementTree.BAD);
            check.due("note(8)", x.note(8), 0);
            check.due("note(9)", x.note(9), EngagementTree.BAD);
            x.rest(0);
            check.due("settle()", x.settle(), EngagementTree.TREE + EngagementTree.RING);
        }
    }
}
