/** Promise 13: only a delivered work note stains, only the token and start clean. */
public final class Promise13Stained {
    private static final Check check = new Check();

    public static void main(String[] args) {
        stainsAndCleans();
        staysThroughAnnouncementOfTree();
        check.end();
    }

    private static void stainsAndCleans() {
        EngagementTree x = new EngagementTree(3, 8);
        stains(x, "before the first start", false, false, false);
        x.start();
        stains(x, "after start", false, false, false);
        x.work(0, 1);
        x.send(0, 1);
        x.send(0, 0);
        stains(x, "with notes flying", false, false, false);
        x.deliver(0);
        stains(x, "with 1 reached", false, true, false);
        x.deliver(1);
        stains(x, "with 0 reached", true, true, false);
        x.deliver(1);
        x.rest(1);
        x.deliver(0);
        stains(x, "with acknowledgements delivered", true, true, false);
        x.passToken();
        stains(x, "with the token refused as busy", true, true, false);
        x.rest(0);
        stains(x, "with TREE announced", true, true, false);
        x.passToken();
        stains(x, "with the token sent round", false, true, false);
        x.passToken();
        stains(x, "with the token past 2", false, true, false);
        x.passToken();
        stains(x, "with the token past 1", false, false, false);
        x.settle();
        stains(x, "with RING announced", false, false, false);
        x.start();
        stains(x, "after the next start", false, false, false);
    }

    private static void staysThroughAnnouncementOfTree() {
        EngagementTree x = new EngagementTree(2, 8);
        x.start();
        x.send(0, 1);
        x.rest(0);
        x.deliver(0);
        x.rest(1);
        x.deliver(0);
        check.due("verdict()", x.verdict(), EngagementTree.TREE);
        check.due("stained(1)", x.stained(1), true);
        check.due("start()", x.start(), EngagementTree.REFUSED);
        check.due("stained(1)", x.stained(1), true);
    }

    private static void stains(EngagementTree x, String when, boolean... due) {
        for (int p = 0; p < due.length; p++) {
            check.due("stained(" + p + ") " + when, x.stained(p), due[p]);
        }
        for (int p : new int[] {-1, 3, 7, 8, Integer.MIN_VALUE, Integer.MAX_VALUE}) {
            check.due("stained(" + p + ") " + when, x.stained(p), false);
        }
    }
}
