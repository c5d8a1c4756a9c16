/** Promise 10: state tells active, waiting and neutral apart. */
public final class Promise10State {
    private static final Check check = new Check();

    public static void main(String[] args) {
        EngagementTree x = new EngagementTree(3, 8);
        wrongProcesses(x);
        states(x, "before the first start", 0, 0, 0);
        x.start();
        states(x, "after start", 2, 0, 0);
        x.send(0, 1);
        states(x, "after send", 2, 0, 0);
        x.deliver(0);
        states(x, "after the delivery", 2, 2, 0);
        x.send(1, 2);
        x.rest(1);
        states(x, "with a note out", 2, 1, 0);
        x.rest(0);
        states(x, "with the root idle", 1, 1, 0);
        x.deliver(1);
        states(x, "with 2 drawn in", 1, 1, 2);
        x.rest(2);
        states(x, "with 2 home", 1, 1, 0);
        x.deliver(1);
        states(x, "with 1 home", 1, 0, 0);
        wrongProcesses(x);
        x.deliver(0);
        states(x, "with TREE announced", 0, 0, 0);
        x.settle();
        states(x, "with both announced", 0, 0, 0);
        x.start();
        states(x, "after the next start", 2, 0, 0);
        wrongProcesses(x);
        ringDoesntEndWaiting();
        check.end();
    }

    private static void ringDoesntEndWaiting() {
        EngagementTree x = new EngagementTree(3, 8);
        x.start();
        x.send(0, 1);
        x.rest(0);
        x.deliver(0);
        x.rest(1);
        for (int i = 0; i < 9; i++) {
            x.passToken();
        }
        check.due("verdict()", x.verdict(), EngagementTree.RING);
        states(x, "with RING alone", 1, 0, 0);
    }

    private static void states(EngagementTree x, String when, int... due) {
        for (int p = 0; p < due.length; p++) {
            check.due("state(" + p + ") " + when, x.state(p), due[p]);
        }
    }

    private static void wrongProcesses(EngagementTree x) {
        for (int p : new int[] {-1, 3, 7, 8, Integer.MIN_VALUE, Integer.MAX_VALUE}) {
            check.due("state(" + p + ")", x.state(p), EngagementTree.BAD);
        }
    }
}
