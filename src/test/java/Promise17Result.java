/** Promise 17, sentence by sentence: each result opens with its detector's announcement. */
public final class Promise17Result {
    private static final Check check = new Check();

    public static void main(String[] args) {
        check.section("Promise 17");
        sumOfWork();
        maskOfReached();
        rootOnceInTheMask();
        sumOfDelivered();
        closed();
        oneBitAlone();
        anewAfterStart();
        nothingChanges();
        check.endOfSection();
    }

    private static void sumOfWork() {
        check.sentence("which = 0, needs TREE announced: the sum of tally(p, 0) over all processes, wrapping");
        EngagementTree x = allReached();
        check.answers(x, "settle() = TREE + RING", "result(0) = 254");
        EngagementTree nothingDone = Scenes.started(3, 8);
        nothingDone.rest(0);
        check.answers(nothingDone, "verdict() = TREE", "result(0) = 0");
        wrapping(Integer.MAX_VALUE, 2, Integer.MIN_VALUE + 1);
        wrapping(Integer.MIN_VALUE, -1, Integer.MAX_VALUE);
        wrapping(Integer.MIN_VALUE, Integer.MIN_VALUE, 0);
        wrapping(Integer.MAX_VALUE, Integer.MAX_VALUE, -2);
    }

    private static void wrapping(int first, int second, int sum) {
        EngagementTree x = Scenes.drawnIn(2, 8, 1);
        x.work(0, first);
        x.work(1, second);
        x.rest(0);
        x.rest(1);
        x.deliver(0);
        check.answers(x, "verdict() = TREE", "result(0) = " + sum);
    }

    /** Of 8 processes each was drawn in by 0 and did 2 to the power of its number of work; 0 did none. */
    private static EngagementTree allReached() {
        EngagementTree x = Scenes.started(8, 8);
        for (int p = 1; p < 8; p++) {
            x.send(0, p);
            x.deliver(p - 1);
            x.work(p, 1 << p);
            x.rest(p);
        }
        x.rest(0);
        return x;
    }

    private static void maskOfReached() {
        check.sentence("which = 1, needs TREE announced: the sum of 2 to the power p over process 0");
        EngagementTree all = allReached();
        check.answers(all, "settle() = TREE + RING", "result(1) = 255");
        for (int q = 1; q < 8; q++) {
            EngagementTree one = Scenes.drawnIn(8, 8, q);
            one.send(0, q);
            one.deliver(1);
            one.rest(0);
            one.rest(q);
            check.answers(one, "settle() = TREE + RING", "tally(" + q + ", 1) = 2", "result(1) = " + (1 + (1 << q)));
        }
        // Work done doesn't count here, nor do notes sent: 1 is in the mask, having done neither.
        EngagementTree idle = Scenes.drawnIn(3, 8, 1);
        idle.rest(1);
        idle.rest(0);
        check.answers(idle, "settle() = TREE + RING", "result(1) = 3");
    }

    private static void rootOnceInTheMask() {
        check.sentence("Process 0 is always in it, exactly once, whatever its own tally(0, 1)");
        for (int notes = 0; notes < 4; notes++) {
            EngagementTree x = Scenes.started(3, 8);
            for (int s = 0; s < notes; s++) {
                x.send(0, 0);
                x.deliver(s);
            }
            x.rest(0);
            check.answers(x, "settle() = TREE + RING", "tally(0, 1) = " + notes, "result(1) = 1");
        }
    }

    private static void sumOfDelivered() {
        check.sentence("which = 2, needs RING announced: the sum of tally(p, 1) over all processes, wrapping");
        EngagementTree all = allReached();
        check.answers(all, "settle() = TREE + RING", "result(2) = 7");
        EngagementTree x = Scenes.drawnIn(4, 8, 3);
        x.send(0, 0);
        x.send(3, 3);
        x.send(3, 0);
        for (int s = 1; s < 4; s++) {
            x.deliver(s);
        }
        x.rest(0);
        x.rest(3);
        check.answers(x, "settle() = TREE + RING", "tally(0, 1) = 2", "tally(3, 1) = 2", "result(2) = 4");
        EngagementTree none = Scenes.treeAlone(2, 8);
        check.answers(none, "settle() = TREE + RING", "result(2) = 0");
    }

    private static void closed() {
        check.sentence("If the needed bit isn't announced, or for any other which: 0");
        check.inEveryScene(x -> {
            for (int which : new int[] {-2, -1, 3, 4, Integer.MIN_VALUE, Integer.MAX_VALUE}) {
                check.answers(x, "result(" + which + ") = 0");
            }
            if (x.verdict() == 0) {
                check.answers(x, "result(0) = 0", "result(1) = 0", "result(2) = 0");
            }
        });
        EngagementTree x = Scenes.chain(3, 8);
        x.work(2, 5);
        for (int p = 0; p < 3; p++) {
            x.rest(p);
            check.answers(x, "result(0) = 0", "result(1) = 0", "result(2) = 0");
        }
        x.deliver(1);
        check.answers(x, "result(0) = 0", "result(1) = 0", "result(2) = 0");
        x.deliver(0);
        check.answers(x, "result(0) = 5", "result(1) = 7", "result(2) = 0");
    }

    private static void oneBitAlone() {
        check.sentence("TREE alone doesn't open which = 2, and RING alone doesn't open which = 0 or 1");
        EngagementTree tree = Scenes.drawnIn(3, 8, 1);
        tree.work(1, 21);
        tree.rest(1);
        tree.rest(0);
        tree.deliver(0);
        check.answers(tree, "verdict() = TREE", "result(0) = 21", "result(1) = 3", "result(2) = 0");
        tree.settle();
        check.answers(tree, "verdict() = TREE + RING", "result(0) = 21", "result(1) = 3", "result(2) = 1");
        EngagementTree ring = Scenes.ringAlone(3, 8);
        check.answers(ring, "verdict() = RING", "result(0) = 0", "result(1) = 0", "result(2) = 1");
        ring.deliver(0);
        check.answers(ring, "verdict() = TREE + RING", "result(0) = 9", "result(1) = 3", "result(2) = 1");
    }

    private static void anewAfterStart() {
        check.sentence("After a successful start all results are 0 until the needed bit is announced anew");
        EngagementTree x = Scenes.both(3, 8);
        check.answers(x, "result(0) = 9", "result(1) = 3", "result(2) = 1", "start() = OK");
        check.answers(x, "result(0) = 0", "result(1) = 0", "result(2) = 0");
        x.work(0, 7);
        x.send(0, 0);
        x.deliver(0);
        x.deliver(0);
        check.answers(x, "result(0) = 0", "result(1) = 0", "result(2) = 0");
        x.rest(0);
        check.answers(x, "verdict() = TREE", "result(0) = 7", "result(1) = 1", "result(2) = 0");
        x.settle();
        check.answers(x, "verdict() = TREE + RING", "result(0) = 7", "result(1) = 1", "result(2) = 1");
    }

    private static void nothingChanges() {
        check.sentence("Nothing changes");
        Walk.compareAskedAndUnasked(check, x -> Walk.arguments().forEach(x::result));
    }
}
