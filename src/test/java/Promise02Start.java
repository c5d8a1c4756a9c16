import java.util.Map;

/** Promise 2: start is refused until both detectors have announced, and makes everything anew. */
public final class Promise02Start {
    private static final Check check = new Check();

    public static void main(String[] args) {
        firstStart();
        refusedWhileRunning();
        refusedWithTreeAlone();
        refusedWithRingAlone();
        startsAnewAfterBoth();
        check.end();
    }

    private static void firstStart() {
        EngagementTree x = new EngagementTree(3, 8);
        x.work(0, 5);
        x.send(0, 1);
        x.passToken();
        x.settle();
        Map<String, Integer> before = Check.look(x);
        check.due("first start()", x.start(), EngagementTree.OK);
        check.changes("first start()", before, x, "state(0) = 2", "token() = 1");
    }

    private static void refusedWhileRunning() {
        EngagementTree x = new EngagementTree(3, 8);
        x.start();
        refused("start() while 0 is active", x);
        x.work(0, 7);
        x.send(0, 1);
        x.rest(0);
        refused("start() with a note flying", x);
        x.passToken();
        x.deliver(0);
        refused("start() while 1 is active", x);
    }

    private static void refusedWithTreeAlone() {
        EngagementTree x = new EngagementTree(3, 8);
        x.start();
        x.work(0, 4);
        x.rest(0);
        check.due("verdict()", x.verdict(), EngagementTree.TREE);
        refused("start() with TREE alone", x);
    }

    private static void refusedWithRingAlone() {
        EngagementTree x = ringAlone();
        check.due("verdict()", x.verdict(), EngagementTree.RING);
        refused("start() with RING alone", x);
    }

    private static void startsAnewAfterBoth() {
        EngagementTree x = ringAlone();
        check.due("settle()", x.settle(), EngagementTree.TREE + EngagementTree.RING);
        Map<String, Integer> before = Check.look(x);
        check.due("start() after both", x.start(), EngagementTree.OK);
        check.changes("start() after both", before, x,
            "state(0) = 2", "token() = 1", "verdict() = 0",
            "tally(0, 0) = 0", "tally(0, 2) = 0", "tally(2, 0) = 0", "tally(2, 1) = 0",
            "result(0) = 0", "result(1) = 0", "result(2) = 0");
        refused("start() once more", x);
    }

    private static EngagementTree ringAlone() {
        EngagementTree x = new EngagementTree(3, 8);
        x.start();
        x.work(0, 3);
        x.send(0, 2);
        x.rest(0);
        x.deliver(0);
        x.work(2, 6);
        x.rest(2);
        for (int i = 0; i < 7; i++) {
            x.passToken();
        }
        return x;
    }

    private static void refused(String call, EngagementTree x) {
        Map<String, Integer> before = Check.look(x);
        check.due(call, x.start(), EngagementTree.REFUSED);
        check.changes(call, before, x);
    }
}
