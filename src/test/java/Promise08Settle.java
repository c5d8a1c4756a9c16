import java.util.Map;

/** Promise 8: settle delivers the acknowledgements, then passes the token while it can. */
public final class Promise08Settle {
    private static final Check check = new Check();
    private static final int BOTH = EngagementTree.TREE + EngagementTree.RING;

    public static void main(String[] args) {
        beforeStart();
        busyAtOnce();
        announcesBoth();
        climbsTheTree();
        lowestFirst();
        everySlotReplying();
        leavesFlyingNotes();
        announcesAfterTheLongestWay();
        stopsAfterThreeRounds();
        threeRoundsFromElsewhere();
        stopsAtBusy();
        ringBeforeTree();
        afterBoth();
        check.end();
    }

    private static void beforeStart() {
        settles(new EngagementTree(3, 8), 0);
    }

    private static void busyAtOnce() {
        EngagementTree x = new EngagementTree(3, 8);
        x.start();
        settles(x, 0);
        x.send(0, 1);
        settles(x, 0);
    }

    private static void announcesBoth() {
        EngagementTree x = new EngagementTree(3, 8);
        x.start();
        x.work(0, 4);
        x.rest(0);
        settles(x, BOTH, "verdict() = 3", "token() = 0");
    }

    private static void climbsTheTree() {
        EngagementTree x = new EngagementTree(4, 8);
        x.start();
        x.send(0, 1);
        x.deliver(0);
        x.send(1, 2);
        x.deliver(1);
        x.send(2, 3);
        x.deliver(2);
        x.work(3, 6);
        x.rest(0);
        x.rest(1);
        x.rest(2);
        x.rest(3);
        settles(x, BOTH, "note(0) = 0", "note(1) = 0", "note(2) = 0",
            "deficit(0) = 0", "deficit(1) = 0", "deficit(2) = 0",
            "state(0) = 0", "state(1) = 0", "state(2) = 0", "parent(1) = -1", "parent(2) = -1",
            "stained(1) = 0", "stained(2) = 0", "stained(3) = 0", "token() = 0", "verdict() = 3",
            "result(0) = 6", "result(1) = 15", "result(2) = 3");
    }

    private static void lowestFirst() {
        EngagementTree x = new EngagementTree(3, 8);
        x.start();
        x.send(0, 1);
        x.send(0, 1);
        x.deliver(1);
        x.deliver(0);
        x.send(1, 2);
        x.deliver(2);
        x.rest(1);
        x.rest(2);
        check.due("note(0)", x.note(0), 193);
        check.due("note(1)", x.note(1), 129);
        check.due("note(2)", x.note(2), 202);
        settles(x, 0, "note(0) = 0", "note(1) = 0", "note(2) = 0", "deficit(0) = 0", "deficit(1) = 0",
            "state(1) = 0", "parent(1) = -1");
    }

    private static void everySlotReplying() {
        for (int m : new int[] {8, 9, 32}) {
            EngagementTree x = new EngagementTree(2, m);
            x.start();
            for (int s = 0; s < m; s++) {
                x.send(0, 0);
                x.deliver(s);
            }
            check.due("settle() while 0 is active", x.settle(), 0);
            check.due("deficit(0)", x.deficit(0), 0);
            x.rest(0);
            check.due("settle()", x.settle(), BOTH);
        }
    }

    private static void leavesFlyingNotes() {
        EngagementTree x = new EngagementTree(2, 8);
        x.start();
        x.send(0, 1);
        x.send(0, 1);
        x.send(0, 1);
        x.deliver(1);
        x.deliver(2);
        settles(x, 0, "note(2) = 0", "deficit(0) = 2");
        x.rest(1);
        settles(x, 0, "note(1) = 0", "deficit(0) = 1");
        check.due("note(0)", x.note(0), 65);
    }

    // No quiet run needs more: the token has passed N-1 when a note stains it, so that a clean
    // and a stained round come to nothing before the clean one that counts.
    private static void announcesAfterTheLongestWay() {
        for (int n = 2; n <= 8; n++) {
            EngagementTree x = new EngagementTree(n, 8);
            x.start();
            x.send(0, n - 1);
            x.rest(0);
            x.passToken();
            x.passToken();
            x.deliver(0);
            x.rest(n - 1);
            check.due("token()", x.token(), 2 * (n - 2));
            check.due("settle() with N = " + n, x.settle(), BOTH);
        }
    }

    // Whole rounds end where they began, so a pass too many or too few shows in the token's place.
    private static void stopsAfterThreeRounds() {
        for (int n = 2; n <= 8; n++) {
            EngagementTree x = new EngagementTree(n, 8);
            x.start();
            x.send(0, 1);
            x.rest(0);
            settles(x, 0, "token() = 0");
            settles(x, 0);
            x.passToken();
            check.due("token()", x.token(), 2 * (n - 1));
        }
    }

    private static void threeRoundsFromElsewhere() {
        EngagementTree x = new EngagementTree(4, 8);
        x.start();
        x.send(0, 1);
        x.rest(0);
        x.passToken();
        x.passToken();
        check.due("token()", x.token(), 4);
        settles(x, 0);
    }

    private static void stopsAtBusy() {
        EngagementTree x = new EngagementTree(4, 8);
        x.start();
        x.send(0, 2);
        x.send(0, 3);
        x.rest(0);
        x.deliver(0);
        x.deliver(1);
        x.rest(3);
        settles(x, 0, "note(1) = 0", "deficit(0) = 1", "stained(3) = 0", "token() = 5");
        settles(x, 0);
    }

    private static void ringBeforeTree() {
        EngagementTree x = new EngagementTree(3, 8);
        x.start();
        x.send(0, 1);
        x.rest(0);
        x.deliver(0);
        x.rest(1);
        for (int i = 0; i < 6; i++) {
            check.due("passToken()", x.passToken(), EngagementTree.OK);
        }
        check.due("passToken()", x.passToken(), EngagementTree.ANNOUNCED);
        check.due("verdict()", x.verdict(), EngagementTree.RING);
        settles(x, BOTH, "note(0) = 0", "deficit(0) = 0", "state(0) = 0", "verdict() = 3", "result(1) = 3");
    }

    private static void afterBoth() {
        EngagementTree x = new EngagementTree(3, 8);
        x.start();
        x.rest(0);
        x.settle();
        settles(x, BOTH);
        x.start();
        settles(x, 0);
    }

    private static void settles(EngagementTree x, int answer, String... changes) {
        Map<String, Integer> before = Check.look(x);
        check.due("settle()", x.settle(), answer);
        check.due("verdict()", x.verdict(), answer);
        check.changes("settle()", before, x, changes);
    }
}
