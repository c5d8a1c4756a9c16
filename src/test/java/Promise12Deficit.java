/** Promise 12, sentence by sentence: deficit counts the sender's notes in all three stages. */
public final class Promise12Deficit {
    private static final Check check = new Check();

    public static void main(String[] args) {
        check.section("Promise 12");
        wrongProcess();
        fromNoneToAllSlots();
        nothingChanges();
        check.endOfSection();
    }

    private static void wrongProcess() {
        check.sentence("deficit(p): p outside 0 .. N-1: BAD");
        check.inEveryScene(x -> {
            for (int p : new int[] {-1, 3, 7, 8, Integer.MIN_VALUE, Integer.MAX_VALUE}) {
                check.answers(x, "deficit(" + p + ") = BAD");
            }
        });
        check.answers(Scenes.started(8, 8), "deficit(7) = 0", "deficit(8) = BAD", "deficit(-1) = BAD");
    }

    private static void fromNoneToAllSlots() {
        check.sentence("Otherwise the number of slots that aren't FREE and whose sender is p, from 0 to M");
        allStages();
        for (int m : new int[] {8, 19, 32}) {
            EngagementTree x = Scenes.drawnIn(3, m, 1);
            x.rest(1);
            x.deliver(0);
            for (int i = 1; i <= m; i++) {
                x.send(0, i % 3);
                check.answers(x, "deficit(0) = " + i, "deficit(1) = 0", "deficit(2) = 0");
            }
            check.answers(x, "send(0, 1) = FULL", "deficit(0) = " + m);
        }
    }

    private static void allStages() {
        EngagementTree x = new EngagementTree(3, 8);
        deficits(x, 0, 0, 0);
        x.start();
        deficits(x, 0, 0, 0);
        x.send(0, 1);
        x.send(0, 1);
        x.send(0, 0);
        deficits(x, 3, 0, 0);
        x.deliver(0);
        deficits(x, 3, 0, 0);
        x.deliver(1);
        x.deliver(2);
        deficits(x, 3, 0, 0);
        x.send(1, 2);
        deficits(x, 3, 1, 0);
        x.deliver(1);
        deficits(x, 2, 1, 0);
        x.deliver(3);
        x.rest(2);
        deficits(x, 2, 1, 0);
        x.deliver(3);
        deficits(x, 2, 0, 0);
        x.rest(1);
        x.deliver(2);
        x.deliver(0);
        deficits(x, 0, 0, 0);
    }

    private static void deficits(EngagementTree x, int... due) {
        for (int p = 0; p < due.length; p++) {
            check.answers(x, "deficit(" + p + ") = " + due[p]);
        }
    }

    private static void nothingChanges() {
        check.sentence("Nothing changes");
        Walk.compareAskedAndUnasked(check, x -> Walk.arguments().forEach(x::deficit));
    }
}
