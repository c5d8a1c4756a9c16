/**
 * The counts of notes wrap too. That takes 2 to the power 31 notes, and so this test takes a
 * minute; two objects are brought there at the same time, each by a thread of its own.
 */
public final class CountsWrap {
    private static final int HALF = 1 << 30;
    private static final Check check = new Check();

    public static void main(String[] args) throws InterruptedException {
        EngagementTree oneReceiver = Scenes.drawnIn(3, 8, 1);
        EngagementTree twoReceivers = Scenes.drawnIn(3, 8, 1);
        Thread first = new Thread(() -> sendMany(oneReceiver, 1, Integer.MAX_VALUE - 1));
        Thread second = new Thread(() -> {
            sendMany(twoReceivers, 1, HALF - 1);
            sendMany(twoReceivers, 2, HALF);
        });
        first.start();
        second.start();
        first.join();
        second.join();
        talliesWrap(oneReceiver);
        maskLeavesOutTheWrapped(oneReceiver);
        sumWraps(twoReceivers);
        check.end();
    }

    /** Each note is acknowledged before the next one, but for the one that first draws q in. */
    private static void sendMany(EngagementTree x, int q, int count) {
        for (int i = 0; i < count; i++) {
            int s = x.send(0, q);
            if (x.deliver(s) == EngagementTree.REPLYING) {
                x.deliver(s);
            }
        }
    }

    private static void talliesWrap(EngagementTree x) {
        check.section("Promise 4");
        check.sentence("Otherwise the lowest-numbered FREE slot becomes FLYING");
        check.answers(x, "tally(0, 2) = 2147483647", "tally(1, 1) = 2147483647");
        check.call(x, "send(0, 1) = 1", "note(1) = 65", "deficit(0) = 2", "tally(0, 2) = -2147483648");
        check.section("Promise 6");
        check.sentence("In both cases q becomes active (or stays so), q becomes stained (or stays so)");
        check.call(x, "deliver(1) = REPLYING", "note(1) = 193", "tally(1, 1) = -2147483648");
    }

    private static void maskLeavesOutTheWrapped(EngagementTree x) {
        check.section("Promise 17");
        check.sentence("which = 1, needs TREE announced: the sum of 2 to the power p over process 0");
        x.rest(0);
        x.rest(1);
        check.answers(x, "settle() = TREE + RING", "tally(1, 1) = -2147483648", "result(1) = 1");
        check.sentence("which = 2, needs RING announced: the sum of tally(p, 1) over all processes");
        check.answers(x, "result(2) = -2147483648");
    }

    private static void sumWraps(EngagementTree x) {
        check.section("Promise 17");
        check.sentence("which = 2, needs RING announced: the sum of tally(p, 1) over all processes");
        check.answers(x, "tally(1, 1) = " + HALF, "tally(2, 1) = " + HALF, "tally(0, 2) = -2147483648");
        x.rest(0);
        x.rest(1);
        x.rest(2);
        check.answers(x, "settle() = TREE + RING", "result(2) = -2147483648", "result(1) = 7");
    }
}
