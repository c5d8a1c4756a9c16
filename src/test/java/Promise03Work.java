import java.util.Map;

/** Promise 3: work adds to one tally, for an active process alone. */
public final class Promise03Work {
    private static final Check check = new Check();

    public static void main(String[] args) {
        beforeStart();
        adds();
        onlyActiveOnes();
        check.end();
    }

    private static void beforeStart() {
        EngagementTree x = new EngagementTree(3, 8);
        for (int p = 0; p < 3; p++) {
            nothing(x, p, 5, EngagementTree.NOT_ACTIVE);
        }
        wrongProcesses(x);
    }

    private static void adds() {
        EngagementTree x = new EngagementTree(3, 8);
        x.start();
        wrongProcesses(x);
        adds(x, 0, 5, "tally(0, 0) = 5");
        adds(x, 0, 0);
        adds(x, 0, -12, "tally(0, 0) = -7");
        adds(x, 0, Integer.MIN_VALUE, "tally(0, 0) = 2147483641");
        adds(x, 0, Integer.MAX_VALUE, "tally(0, 0) = -8");
        adds(x, 0, Integer.MAX_VALUE, "tally(0, 0) = 2147483639");
    }

    private static void onlyActiveOnes() {
        EngagementTree x = new EngagementTree(3, 8);
        x.start();
        x.send(0, 1);
        nothing(x, 1, 5, EngagementTree.NOT_ACTIVE);
        x.deliver(0);
        adds(x, 1, 9, "tally(1, 0) = 9");
        adds(x, 0, 2, "tally(0, 0) = 2");
        x.send(1, 2);
        x.rest(1);
        nothing(x, 1, 5, EngagementTree.NOT_ACTIVE);
        nothing(x, 2, 5, EngagementTree.NOT_ACTIVE);
        x.rest(0);
        nothing(x, 0, 5, EngagementTree.NOT_ACTIVE);
        x.deliver(1);
        x.rest(2);
        x.settle();
        nothing(x, 0, 5, EngagementTree.NOT_ACTIVE);
        wrongProcesses(x);
    }

    private static void wrongProcesses(EngagementTree x) {
        for (int p : new int[] {-1, 3, 8, Integer.MIN_VALUE, Integer.MAX_VALUE}) {
            nothing(x, p, 5, EngagementTree.BAD);
        }
    }

    private static void adds(EngagementTree x, int p, int amount, String... changes) {
        String call = "work(" + p + ", " + amount + ")";
        Map<String, Integer> before = Check.look(x);
        check.due(call, x.work(p, amount), EngagementTree.OK);
        check.changes(call, before, x, changes);
    }

    private static void nothing(EngagementTree x, int p, int amount, int answer) {
        String call = "work(" + p + ", " + amount + ")";
        Map<String, Integer> before = Check.look(x);
        check.due(call, x.work(p, amount), answer);
        check.changes(call, before, x);
    }
}
