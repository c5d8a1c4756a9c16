/** Promise 15: the tallies of work, of notes delivered and of notes sent. */
public final class Promise15Tally {
    private static final Check check = new Check();

    public static void main(String[] args) {
        counts();
        noteToItself();
        wrongArguments();
        wraps();
        check.end();
    }

    private static void counts() {
        EngagementTree x = new EngagementTree(3, 8);
        tallies(x, "before the first start", 0, 0, 0, 0);
        x.start();
        x.work(0, 5);
        x.work(0, -2);
        x.send(0, 1);
        x.send(0, 1);
        tallies(x, "with two sent", 0, 3, 0, 2);
        tallies(x, "with two sent", 1, 0, 0, 0);
        x.deliver(0);
        x.deliver(1);
        x.work(1, 100);
        tallies(x, "with two delivered", 1, 100, 2, 0);
        x.send(1, 2);
        x.deliver(1);
        x.deliver(2);
        x.rest(2);
        x.deliver(2);
        x.rest(1);
        x.deliver(0);
        tallies(x, "with all acknowledged", 0, 3, 0, 2);
        tallies(x, "with all acknowledged", 1, 100, 2, 1);
        tallies(x, "with all acknowledged", 2, 0, 1, 0);
        x.rest(0);
        x.settle();
        check.due("verdict()", x.verdict(), EngagementTree.TREE + EngagementTree.RING);
        tallies(x, "after both announcements", 0, 3, 0, 2);
        tallies(x, "after both announcements", 1, 100, 2, 1);
        tallies(x, "after both announcements", 2, 0, 1, 0);
        x.start();
        for (int p = 0; p < 3; p++) {
            tallies(x, "after the next start", p, 0, 0, 0);
        }
    }

    private static void noteToItself() {
        EngagementTree x = new EngagementTree(2, 8);
        x.start();
        x.send(0, 0);
        tallies(x, "with its own note flying", 0, 0, 0, 1);
        x.deliver(0);
        tallies(x, "with its own note delivered", 0, 0, 1, 1);
        x.deliver(0);
        tallies(x, "with its own note acknowledged", 0, 0, 1, 1);
    }

    private static void wrongArguments() {
        EngagementTree x = new EngagementTree(2, 8);
        x.start();
        x.work(0, 9);
        x.send(0, 0);
        x.deliver(0);
        for (int p : new int[] {-1, 2, 7, 8, Integer.MIN_VALUE, Integer.MAX_VALUE}) {
            tallies(x, "outside", p, 0, 0, 0);
        }
        for (int what : new int[] {-1, 3, 4, Integer.MIN_VALUE, Integer.MAX_VALUE}) {
            check.due("tally(0, " + what + ")", x.tally(0, what), 0);
            check.due("tally(-1, " + what + ")", x.tally(-1, what), 0);
        }
    }

    private static void wraps() {
        EngagementTree x = new EngagementTree(2, 8);
        x.start();
        x.work(0, Integer.MAX_VALUE);
        x.work(0, 1);
        check.due("tally(0, 0)", x.tally(0, 0), Integer.MIN_VALUE);
        x.work(0, -1);
        check.due("tally(0, 0)", x.tally(0, 0), Integer.MAX_VALUE);
    }

    private static void tallies(EngagementTree x, String when, int p, int... due) {
        for (int what = 0; what < due.length; what++) {
            check.due("tally(" + p + ", " + what + ") " + when, x.tally(p, what), due[what]);
        }
    }
}
