/** Promise 2, sentence by sentence: start is refused until both detectors have announced. */
public final class Promise02Start {
    private static final Check check = new Check();

    public static void main(String[] args) {
        check.section("Promise 2");
        startsAComputation();
        refusedUntilBoth();
        oneBitIsNotEnough();
        makesAllAnew();
        answersOk();
        slotsStayFree();
        sizesDontChange();
        firstIsNeverRefused();
        check.endOfSection();
    }

    private static void startsAComputation() {
        check.sentence("start() starts a computation");
        EngagementTree x = new EngagementTree(3, 8);
        check.call(x, "work(0, 1) = NOT_ACTIVE");
        check.call(x, "start() = OK", "state(0) = ACTIVE", "token() = 1");
        check.call(x, "work(0, 1) = OK", "tally(0, 0) = 1");
    }

    private static void refusedUntilBoth() {
        check.sentence("If one was started before and the verdict isn't TREE + RING");
        check.inEveryScene(x -> {
            boolean never = x.token() == EngagementTree.NONE;
            if (!never && x.verdict() != EngagementTree.TREE + EngagementTree.RING) {
                check.call(x, "start() = REFUSED");
                check.call(x, "start() = REFUSED");
            }
        });
        Walk.everyStep(step -> {
            if (step.call().isA("start")) {
                boolean never = step.before().answer("token()") == EngagementTree.NONE;
                boolean due = never || step.before().answer("verdict()") == 3;
                check.due("start()", step.answer(), due ? EngagementTree.OK : EngagementTree.REFUSED);
            }
        });
    }

    private static void oneBitIsNotEnough() {
        check.sentence("One announced bit alone isn't enough");
        EngagementTree tree = Scenes.treeAlone(3, 8);
        check.answers(tree, "verdict() = TREE");
        check.call(tree, "start() = REFUSED");
        EngagementTree ring = Scenes.ringAlone(3, 8);
        check.answers(ring, "verdict() = RING");
        check.call(ring, "start() = REFUSED");
        tree.settle();
        check.answers(tree, "verdict() = TREE + RING", "start() = OK");
        ring.deliver(0);
        check.answers(ring, "verdict() = TREE + RING", "start() = OK");
    }

    private static void makesAllAnew() {
        check.sentence("Otherwise: the verdict becomes 0, all tallies of all processes become 0");
        EngagementTree x = Scenes.both(3, 8);
        check.call(x, "start() = OK", "verdict() = 0", "state(0) = ACTIVE", "token() = 1",
            "tally(0, 0) = 0", "tally(0, 2) = 0", "tally(1, 0) = 0", "tally(1, 1) = 0",
            "result(0) = 0", "result(1) = 0", "result(2) = 0");
        allAnew(x, 3);
        EngagementTree wide = Scenes.started(8, 32);
        for (int p = 0; p < 8; p++) {
            wide.send(0, p);
            wide.deliver(p);
            wide.work(p, p + 1);
            wide.send(p, 7 - p);
            wide.deliver(8 + p);
        }
        for (int s = 0; s < 16; s++) {
            wide.deliver(s);
        }
        for (int p = 0; p < 8; p++) {
            wide.rest(p);
        }
        check.answers(wide, "settle() = TREE + RING", "start() = OK");
        allAnew(wide, 8);
    }

    private static void allAnew(EngagementTree x, int n) {
        check.answers(x, "verdict() = 0", "token() = 1", "state(0) = ACTIVE");
        for (int p = 0; p < n; p++) {
            check.answers(x, "stained(" + p + ") = false", "tally(" + p + ", 0) = 0", "tally(" + p + ", 1) = 0",
                "tally(" + p + ", 2) = 0");
        }
        for (int p = 1; p < n; p++) {
            check.answers(x, "state(" + p + ") = NEUTRAL");
        }
    }

    private static void answersOk() {
        check.sentence("The answer is OK");
        EngagementTree x = new EngagementTree(2, 8);
        for (int run = 0; run < 5; run++) {
            check.answers(x, "start() = OK", "rest(0) = OK", "settle() = TREE + RING");
        }
    }

    private static void slotsStayFree() {
        check.sentence("All slots are FREE at this moment anyway and stay so");
        EngagementTree x = Scenes.full(3, 11, 2);
        for (int s = 0; s < 11; s++) {
            x.deliver(s);
        }
        x.rest(0);
        x.rest(2);
        x.settle();
        x.start();
        for (int s = 0; s < 11; s++) {
            check.answers(x, "note(" + s + ") = 0", "deliver(" + s + ") = REFUSED");
        }
        for (int p = 0; p < 3; p++) {
            check.answers(x, "deficit(" + p + ") = 0", "parent(" + p + ") = NONE");
        }
        check.answers(x, "send(0, 1) = 0");
    }

    private static void sizesDontChange() {
        check.sentence("N and M don't change");
        for (int n = 2; n <= 8; n++) {
            int m = 8 + 4 * (n - 2);
            EngagementTree x = Scenes.both(n, m);
            check.answers(x, "start() = OK", "state(" + (n - 1) + ") = NEUTRAL", "state(" + n + ") = BAD",
                "note(" + (m - 1) + ") = 0", "note(" + m + ") = BAD");
        }
    }

    private static void firstIsNeverRefused() {
        check.sentence("The first start of an object is never refused");
        for (int size = -1; size < 40; size++) {
            check.call(new EngagementTree(size, size), "start() = OK", "state(0) = ACTIVE", "token() = 1");
        }
        EngagementTree x = new EngagementTree(3, 8);
        for (String refused : new String[] {"work(0, 5) = NOT_ACTIVE", "send(0, 1) = NOT_ACTIVE",
            "rest(0) = NOT_ACTIVE", "deliver(0) = REFUSED", "passToken() = REFUSED", "settle() = 0"}) {
            check.call(x, refused);
        }
        check.call(x, "start() = OK", "state(0) = ACTIVE", "token() = 1");
    }
}
