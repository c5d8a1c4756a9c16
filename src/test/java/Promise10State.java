/** Promise 10, sentence by sentence: state tells active, waiting and neutral apart. */
public final class Promise10State {
    private static final Check check = new Check();

    public static void main(String[] args) {
        check.section("Promise 10");
        wrongProcess();
        active();
        waiting();
        neutral();
        beforeTheFirstStart();
        root();
        nothingChanges();
        check.endOfSection();
    }

    private static void wrongProcess() {
        check.sentence("p outside 0 .. N-1: BAD");
        check.inEveryScene(x -> {
            for (int p : new int[] {-1, 3, 7, 8, Integer.MIN_VALUE, Integer.MAX_VALUE}) {
                check.answers(x, "state(" + p + ") = BAD");
            }
        });
        check.answers(Scenes.started(8, 8), "state(7) = NEUTRAL", "state(8) = BAD", "state(-1) = BAD");
    }

    private static void active() {
        check.sentence("p active: ACTIVE");
        EngagementTree x = Scenes.started(3, 8);
        check.answers(x, "state(0) = ACTIVE");
        x.send(0, 1);
        check.answers(x, "state(1) = NEUTRAL");
        x.deliver(0);
        check.answers(x, "state(0) = ACTIVE", "state(1) = ACTIVE");
        x.send(1, 0);
        x.rest(0);
        check.answers(x, "state(0) = WAITING");
        x.deliver(1);
        check.answers(x, "state(0) = ACTIVE");
    }

    private static void waiting() {
        check.sentence("p engaged: WAITING");
        EngagementTree x = Scenes.chain(3, 8);
        x.rest(1);
        check.answers(x, "state(0) = ACTIVE", "state(1) = WAITING", "state(2) = ACTIVE");
        x.rest(0);
        check.answers(x, "state(0) = WAITING", "state(1) = WAITING", "state(2) = ACTIVE");
        x.send(2, 1);
        x.deliver(2);
        check.answers(x, "state(1) = ACTIVE");
        x.rest(1);
        check.answers(x, "state(1) = WAITING");
    }

    private static void neutral() {
        check.sentence("Otherwise: NEUTRAL");
        EngagementTree x = Scenes.chain(3, 8);
        x.rest(1);
        x.rest(2);
        check.answers(x, "state(2) = NEUTRAL", "state(1) = WAITING");
        x.deliver(1);
        check.answers(x, "state(1) = NEUTRAL", "note(0) = 193");
        x.send(0, 2);
        check.answers(x, "state(2) = NEUTRAL");
    }

    private static void beforeTheFirstStart() {
        check.sentence("Before the first start every process is NEUTRAL");
        for (int n = 2; n <= 8; n++) {
            EngagementTree x = new EngagementTree(n, 8);
            for (int p = 0; p < n; p++) {
                check.answers(x, "state(" + p + ") = NEUTRAL");
            }
            x.settle();
            x.rest(0);
            check.answers(x, "state(0) = NEUTRAL");
        }
    }

    private static void root() {
        check.sentence("Process 0, when not active, is WAITING from a successful start until TREE is announced");
        EngagementTree x = Scenes.drawnIn(3, 8, 1);
        x.rest(0);
        check.answers(x, "state(0) = WAITING");
        x.rest(1);
        check.answers(x, "state(0) = WAITING");
        check.answers(x, "start() = REFUSED", "state(0) = WAITING");
        x.deliver(0);
        check.answers(x, "verdict() = TREE", "state(0) = NEUTRAL");
        check.answers(x, "start() = REFUSED", "state(0) = NEUTRAL");
        x.settle();
        check.answers(x, "verdict() = TREE + RING", "state(0) = NEUTRAL");
        x.start();
        check.answers(x, "state(0) = ACTIVE");
        x.send(0, 1);
        x.rest(0);
        check.answers(x, "state(0) = WAITING");
        // RING alone doesn't end the waiting.
        EngagementTree ring = Scenes.ringAlone(3, 8);
        check.answers(ring, "verdict() = RING", "state(0) = WAITING");
    }

    private static void nothingChanges() {
        check.sentence("Nothing changes");
        Walk.compareAskedAndUnasked(check, x -> Walk.arguments().forEach(x::state));
    }
}
