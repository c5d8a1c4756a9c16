/** Promise 17: each result opens with its detector's announcement. */
public final class Promise17Result {
    private static final Check check = new Check();

    public static void main(String[] args) {
        treeAlone();
        ringAlone();
        maskOfAll();
        rootOnceInTheMask();
        wraps();
        check.end();
    }

    private static void treeAlone() {
        EngagementTree x = new EngagementTree(4, 8);
        results(x, "before the first start", 0, 0, 0);
        x.start();
        x.work(0, 1);
        x.send(0, 2);
        x.send(0, 2);
        x.rest(0);
        x.deliver(0);
        x.deliver(1);
        x.work(2, 20);
        x.rest(2);
        x.deliver(1);
        results(x, "before any announcement", 0, 0, 0);
        x.deliver(0);
        check.due("verdict()", x.verdict(), EngagementTree.TREE);
        results(x, "with TREE alone", 21, 5, 0);
        x.settle();
        results(x, "with both", 21, 5, 2);
        x.start();
        results(x, "after the next start", 0, 0, 0);
        x.work(0, 7);
        results(x, "while it runs", 0, 0, 0);
        x.rest(0);
        results(x, "with TREE anew", 7, 1, 0);
    }

    private static void ringAlone() {
        EngagementTree x = new EngagementTree(4, 8);
        x.start();
        x.work(0, 1);
        x.send(0, 3);
        x.send(0, 0);
        x.deliver(0);
        x.deliver(1);
        x.rest(0);
        x.rest(3);
        for (int i = 0; i < 8; i++) {
            x.passToken();
            results(x, "before any announcement", 0, 0, 0);
        }
        x.passToken();
        check.due("verdict()", x.verdict(), EngagementTree.RING);
        results(x, "with RING alone", 0, 0, 2);
        x.settle();
        results(x, "with both", 1, 9, 2);
    }

    private static void maskOfAll() {
        EngagementTree x = new EngagementTree(8, 8);
        x.start();
        for (int p = 1; p < 8; p++) {
            x.send(0, p);
            x.deliver(p - 1);
            x.work(p, 1 << p);
            x.rest(p);
        }
        x.rest(0);
        x.settle();
        results(x, "with all reached", 254, 255, 7);
    }

    private static void rootOnceInTheMask() {
        EngagementTree x = new EngagementTree(3, 8);
        x.start();
        x.send(0, 0);
        x.send(0, 0);
        x.deliver(0);
        x.deliver(1);
        x.rest(0);
        x.settle();
        results(x, "with notes to the root alone", 0, 1, 2);
    }

    private static void wraps() {
        EngagementTree x = new EngagementTree(2, 8);
        x.start();
        x.work(0, Integer.MAX_VALUE);
        x.send(0, 1);
        x.deliver(0);
        x.work(1, 2);
        x.rest(0);
        x.rest(1);
        x.settle();
        results(x, "with a great sum", Integer.MIN_VALUE + 1, 3, 1);
    }

    private static void results(EngagementTree x, String when, int... due) {
        for (int which = 0; which < due.length; which++) {
            check.due("result(" + which + ") " + when, x.result(which), due[which]);
        }
        for (int which : new int[] {-1, 3, 4, Integer.MIN_VALUE, Integer.MAX_VALUE}) {
            check.due("result(" + which + ") " + when, x.result(which), 0);
        }
    }
}
