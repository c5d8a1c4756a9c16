import java.util.Map;

/** Promise 6: deliver brings work to its receiver and acknowledgements to their sender. */
public final class Promise06Deliver {
    private static final Check check = new Check();

    public static void main(String[] args) {
        refusals();
        workToNeutral();
        workToEngaged();
        workToWaiting();
        workToRoot();
        workToItself();
        acknowledgementsClimb();
        acknowledgementToActive();
        lastAcknowledgementAnnounces();
        anyOrder();
        check.end();
    }

    private static void refusals() {
        EngagementTree x = new EngagementTree(3, 9);
        outside(x);
        nothing(x, 0, EngagementTree.REFUSED);
        nothing(x, 8, EngagementTree.REFUSED);
        x.start();
        x.send(0, 1);
        outside(x);
        nothing(x, 1, EngagementTree.REFUSED);
        x.deliver(0);
        nothing(x, 0, EngagementTree.REFUSED);
        x.send(1, 2);
        x.rest(1);
        nothing(x, 0, EngagementTree.REFUSED);
        x.deliver(1);
        x.rest(2);
        x.deliver(1);
        nothing(x, 1, EngagementTree.REFUSED);
    }

    private static void workToNeutral() {
        EngagementTree x = new EngagementTree(3, 8);
        x.start();
        x.send(0, 2);
        delivers(x, 0, EngagementTree.HELD,
            "note(0) = 130", "state(2) = 2", "parent(2) = 0", "stained(2) = 1", "tally(2, 1) = 1");
    }

    private static void workToEngaged() {
        EngagementTree x = new EngagementTree(3, 8);
        x.start();
        x.send(0, 2);
        x.send(0, 2);
        x.deliver(1);
        delivers(x, 0, EngagementTree.REPLYING, "note(0) = 194", "tally(2, 1) = 2");
        check.due("parent(2)", x.parent(2), 0);
    }

    private static void workToWaiting() {
        EngagementTree x = new EngagementTree(4, 8);
        x.start();
        x.send(0, 1);
        x.send(0, 2);
        x.deliver(0);
        x.deliver(1);
        x.send(1, 3);
        x.rest(1);
        x.send(2, 1);
        delivers(x, 3, EngagementTree.REPLYING, "note(3) = 209", "state(1) = 2", "tally(1, 1) = 2");
        check.due("parent(1)", x.parent(1), 0);
    }

    private static void workToRoot() {
        EngagementTree x = new EngagementTree(3, 8);
        x.start();
        x.send(0, 0);
        delivers(x, 0, EngagementTree.REPLYING, "note(0) = 192", "stained(0) = 1", "tally(0, 1) = 1");
        x.send(0, 1);
        x.deliver(1);
        x.send(1, 0);
        x.rest(0);
        delivers(x, 2, EngagementTree.REPLYING, "note(2) = 200", "state(0) = 2", "tally(0, 1) = 2");
        check.due("parent(0)", x.parent(0), EngagementTree.NONE);
    }

    private static void workToItself() {
        EngagementTree x = new EngagementTree(2, 8);
        x.start();
        x.send(0, 1);
        x.deliver(0);
        x.send(1, 1);
        x.rest(1);
        delivers(x, 1, EngagementTree.REPLYING, "note(1) = 201", "state(1) = 2", "tally(1, 1) = 2");
        x.rest(1);
        delivers(x, 1, EngagementTree.FREE,
            "note(1) = 0", "deficit(1) = 0", "note(0) = 193", "state(1) = 0", "parent(1) = -1");
    }

    private static void acknowledgementsClimb() {
        EngagementTree x = new EngagementTree(4, 8);
        x.start();
        x.send(0, 1);
        x.deliver(0);
        x.send(1, 2);
        x.send(1, 3);
        x.rest(1);
        x.deliver(1);
        x.rest(2);
        x.deliver(2);
        x.rest(3);
        delivers(x, 1, EngagementTree.FREE, "note(1) = 0", "deficit(1) = 1");
        delivers(x, 2, EngagementTree.FREE,
            "note(2) = 0", "deficit(1) = 0", "note(0) = 193", "state(1) = 0", "parent(1) = -1");
        delivers(x, 0, EngagementTree.FREE, "note(0) = 0", "deficit(0) = 0");
    }

    private static void acknowledgementToActive() {
        EngagementTree x = new EngagementTree(3, 8);
        x.start();
        x.send(0, 1);
        x.deliver(0);
        x.send(1, 2);
        x.deliver(1);
        x.rest(2);
        delivers(x, 1, EngagementTree.FREE, "note(1) = 0", "deficit(1) = 0");
        check.due("note(0)", x.note(0), 129);
        check.due("state(1)", x.state(1), EngagementTree.ACTIVE);
    }

    private static void lastAcknowledgementAnnounces() {
        EngagementTree x = new EngagementTree(3, 8);
        x.start();
        x.work(0, 10);
        x.send(0, 1);
        x.send(0, 2);
        x.rest(0);
        x.deliver(0);
        x.deliver(1);
        x.work(2, 5);
        x.rest(1);
        x.rest(2);
        delivers(x, 1, EngagementTree.FREE, "note(1) = 0", "deficit(0) = 1");
        delivers(x, 0, EngagementTree.FREE, "note(0) = 0", "deficit(0) = 0", "state(0) = 0",
            "verdict() = 1", "result(0) = 15", "result(1) = 7");
        nothing(x, 0, EngagementTree.REFUSED);
    }

    private static void anyOrder() {
        EngagementTree x = new EngagementTree(2, 32);
        x.start();
        for (int s = 0; s < 32; s++) {
            x.send(0, 1);
        }
        for (int i = 0; i < 32; i++) {
            int s = i * 13 % 32;
            int due = i == 0 ? EngagementTree.HELD : EngagementTree.REPLYING;
            check.due("deliver(" + s + ")", x.deliver(s), due);
        }
        for (int i = 1; i < 32; i++) {
            int s = i * 7 % 32;
            check.due("deliver(" + s + ")", x.deliver(s), EngagementTree.FREE);
        }
        nothing(x, 0, EngagementTree.REFUSED);
        check.due("tally(1, 1)", x.tally(1, 1), 32);
        check.due("deficit(0)", x.deficit(0), 1);
    }

    private static void outside(EngagementTree x) {
        for (int s : new int[] {-1, 9, 32, Integer.MIN_VALUE, Integer.MAX_VALUE}) {
            nothing(x, s, EngagementTree.BAD);
        }
    }

    private static void delivers(EngagementTree x, int s, int answer, String... changes) {
        Map<String, Integer> before = Check.look(x);
        check.due("deliver(" + s + ")", x.deliver(s), answer);
        check.changes("deliver(" + s + ")", before, x, changes);
    }

    private static void nothing(EngagementTree x, int s, int answer) {
        delivers(x, s, answer);
    }
}
