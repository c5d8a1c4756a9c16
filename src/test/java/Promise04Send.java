import java.util.Map;

/** Promise 4: send takes the lowest free slot and leaves the receiver alone. */
public final class Promise04Send {
    private static final Check check = new Check();

    public static void main(String[] args) {
        wrongProcesses();
        ordinary();
        lowestFreeSlot();
        full();
        check.end();
    }

    private static void wrongProcesses() {
        EngagementTree x = new EngagementTree(3, 8);
        nothing(x, 0, 1, EngagementTree.NOT_ACTIVE);
        nothing(x, 0, 3, EngagementTree.BAD);
        x.start();
        int[] outside = {-1, 3, 8, Integer.MIN_VALUE, Integer.MAX_VALUE};
        for (int p : outside) {
            nothing(x, p, 0, EngagementTree.BAD);
            nothing(x, 0, p, EngagementTree.BAD);
            nothing(x, 1, p, EngagementTree.BAD);
            nothing(x, p, p, EngagementTree.BAD);
        }
        nothing(x, 1, 0, EngagementTree.NOT_ACTIVE);
        nothing(x, 2, 2, EngagementTree.NOT_ACTIVE);
    }

    private static void ordinary() {
        EngagementTree x = new EngagementTree(3, 8);
        x.start();
        sends(x, 0, 2, 0, "note(0) = 66", "deficit(0) = 1", "tally(0, 2) = 1");
        sends(x, 0, 0, 1, "note(1) = 64", "deficit(0) = 2", "tally(0, 2) = 2");
        x.deliver(0);
        sends(x, 2, 2, 2, "note(2) = 82", "deficit(2) = 1", "tally(2, 2) = 1");
        sends(x, 2, 0, 3, "note(3) = 80", "deficit(2) = 2", "tally(2, 2) = 2");
        sends(x, 2, 1, 4, "note(4) = 81", "deficit(2) = 3", "tally(2, 2) = 3");
        x.rest(2);
        nothing(x, 2, 1, EngagementTree.NOT_ACTIVE);
        sends(x, 0, 2, 5, "note(5) = 66", "deficit(0) = 3", "tally(0, 2) = 3");
    }

    private static void lowestFreeSlot() {
        EngagementTree x = new EngagementTree(2, 8);
        x.start();
        for (int s = 0; s < 5; s++) {
            x.send(0, 0);
        }
        free(x, 3);
        free(x, 1);
        sends(x, 0, 1, 1, "note(1) = 65", "deficit(0) = 4", "tally(0, 2) = 6");
        sends(x, 0, 1, 3, "note(3) = 65", "deficit(0) = 5", "tally(0, 2) = 7");
        sends(x, 0, 1, 5, "note(5) = 65", "deficit(0) = 6", "tally(0, 2) = 8");
    }

    private static void full() {
        EngagementTree x = new EngagementTree(8, 11);
        x.start();
        for (int s = 0; s < 11; s++) {
            check.due("send(0, 7)", x.send(0, 7), s);
        }
        nothing(x, 0, 7, EngagementTree.FULL);
        nothing(x, 0, 8, EngagementTree.BAD);
        nothing(x, 7, 0, EngagementTree.NOT_ACTIVE);
        x.deliver(4);
        nothing(x, 7, 7, EngagementTree.FULL);
        x.deliver(10);
        nothing(x, 0, 0, EngagementTree.FULL);
        x.deliver(10);
        sends(x, 7, 3, 10, "note(10) = 123", "deficit(7) = 1", "tally(7, 2) = 1");
        nothing(x, 7, 3, EngagementTree.FULL);
    }

    private static void free(EngagementTree x, int s) {
        check.due("deliver(" + s + ")", x.deliver(s), EngagementTree.REPLYING);
        check.due("deliver(" + s + ")", x.deliver(s), EngagementTree.FREE);
    }

    private static void sends(EngagementTree x, int p, int q, int slot, String... changes) {
        String call = "send(" + p + ", " + q + ")";
        Map<String, Integer> before = Check.look(x);
        check.due(call, x.send(p, q), slot);
        check.changes(call, before, x, changes);
    }

    private static void nothing(EngagementTree x, int p, int q, int answer) {
        String call = "send(" + p + ", " + q + ")";
        Map<String, Integer> before = Check.look(x);
        check.due(call, x.send(p, q), answer);
        check.changes(call, before, x);
    }
}
