/** Promise 15, sentence by sentence: the tallies of work, of notes delivered and of notes sent. */
public final class Promise15Tally {
    private static final Check check = new Check();

    public static void main(String[] args) {
        check.section("Promise 15");
        work();
        delivered();
        sent();
        noteToItself();
        acknowledgements();
        outside();
        stayUntilTheNextStart();
        nothingChanges();
        check.endOfSection();
    }

    private static void work() {
        check.sentence("what = 0: the sum of its amounts of work, wrapping");
        EngagementTree x = Scenes.drawnIn(2, 8, 1);
        x.work(0, 5);
        x.work(0, -2);
        x.work(1, 100);
        check.answers(x, "tally(0, 0) = 3", "tally(1, 0) = 100");
        x.work(0, Integer.MAX_VALUE - 3);
        check.answers(x, "tally(0, 0) = 2147483647");
        x.work(0, 1);
        check.answers(x, "tally(0, 0) = -2147483648");
        x.work(0, -1);
        check.answers(x, "tally(0, 0) = 2147483647", "tally(1, 0) = 100");
    }

    private static void delivered() {
        check.sentence("what = 1: the number of work notes delivered to it");
        EngagementTree x = Scenes.full(8, 32, 7);
        for (int s = 0; s < 32; s++) {
            check.answers(x, "tally(7, 1) = " + s);
            x.deliver(s);
        }
        check.answers(x, "tally(7, 1) = 32", "tally(0, 1) = 0", "tally(7, 2) = 0");
        x.send(7, 0);
        x.settle();
        x.send(7, 0);
        check.answers(x, "tally(0, 1) = 0");
        x.deliver(1);
        check.answers(x, "tally(0, 1) = 1", "tally(7, 1) = 32");
    }

    private static void sent() {
        check.sentence("what = 2: the number of work notes it sent");
        EngagementTree x = Scenes.started(3, 8);
        for (int i = 0; i < 8; i++) {
            check.answers(x, "tally(0, 2) = " + i);
            x.send(0, 1);
        }
        check.answers(x, "tally(0, 2) = 8", "tally(1, 2) = 0", "send(0, 1) = FULL", "tally(0, 2) = 8");
        check.answers(x, "send(1, 0) = NOT_ACTIVE", "send(0, 3) = BAD", "tally(0, 2) = 8", "tally(1, 2) = 0");
    }

    private static void noteToItself() {
        check.sentence("A note p sends to itself counts in both of the last two");
        for (int p = 0; p < 2; p++) {
            EngagementTree x = Scenes.drawnIn(2, 8, 1);
            int sent = x.tally(p, 2);
            int delivered = x.tally(p, 1);
            x.send(p, p);
            check.answers(x, "tally(" + p + ", 2) = " + (sent + 1), "tally(" + p + ", 1) = " + delivered);
            x.deliver(1);
            check.answers(x, "tally(" + p + ", 2) = " + (sent + 1), "tally(" + p + ", 1) = " + (delivered + 1));
            x.deliver(1);
            check.answers(x, "tally(" + p + ", 2) = " + (sent + 1), "tally(" + p + ", 1) = " + (delivered + 1),
                "tally(" + p + ", 0) = 0");
        }
    }

    private static void acknowledgements() {
        check.sentence("Acknowledgements count in none");
        EngagementTree x = Scenes.chain(3, 8);
        x.rest(2);
        check.call(x, "deliver(1) = FREE", "note(1) = 0", "deficit(1) = 0");
        x.rest(1);
        check.call(x, "deliver(0) = FREE", "note(0) = 0", "deficit(0) = 0");
        check.answers(x, "tally(0, 1) = 0", "tally(0, 2) = 1", "tally(1, 1) = 1", "tally(1, 2) = 1", "tally(2, 1) = 1",
            "tally(2, 2) = 0");
    }

    private static void outside() {
        check.sentence("The answer is 0 if p is outside 0 .. N-1, or what is outside 0 .. 2");
        int[] ends = {-1, 3, 7, 8, Integer.MIN_VALUE, Integer.MAX_VALUE};
        check.inEveryScene(x -> {
            for (int wrong : ends) {
                for (int right = -1; right <= 3; right++) {
                    check.answers(x, "tally(" + wrong + ", " + right + ") = 0",
                        "tally(" + right + ", " + wrong + ") = 0");
                }
            }
        });
        EngagementTree fresh = new EngagementTree(8, 8);
        for (int p = 0; p < 8; p++) {
            check.answers(fresh, "tally(" + p + ", 0) = 0", "tally(" + p + ", 1) = 0", "tally(" + p + ", 2) = 0");
        }
    }

    private static void stayUntilTheNextStart() {
        check.sentence("Tallies stay after announcements, until the next successful start makes them 0");
        EngagementTree x = Scenes.ringAlone(3, 8);
        check.answers(x, "verdict() = RING");
        tallies(x, 0, 3, 0, 1);
        tallies(x, 1, 6, 1, 0);
        check.answers(x, "start() = REFUSED");
        tallies(x, 0, 3, 0, 1);
        tallies(x, 1, 6, 1, 0);
        x.deliver(0);
        check.answers(x, "verdict() = TREE + RING");
        tallies(x, 0, 3, 0, 1);
        tallies(x, 1, 6, 1, 0);
        check.answers(x, "start() = OK");
        tallies(x, 0, 0, 0, 0);
        tallies(x, 1, 0, 0, 0);
        EngagementTree tree = Scenes.treeAlone(3, 8);
        tallies(tree, 0, 4, 0, 0);
        check.answers(tree, "start() = REFUSED");
        tallies(tree, 0, 4, 0, 0);
    }

    private static void tallies(EngagementTree x, int p, int... due) {
        for (int what = 0; what < due.length; what++) {
            check.answers(x, "tally(" + p + ", " + what + ") = " + due[what]);
        }
    }

    private static void nothingChanges() {
        check.sentence("Nothing changes");
        Walk.compareAskedAndUnasked(check, x -> {
            for (int what : new int[] {-1, 0, 1, 2, 3, Integer.MIN_VALUE, Integer.MAX_VALUE}) {
                Walk.arguments().forEach(p -> x.tally(p, what));
            }
        });
    }
}
