/** Promise 13, sentence by sentence: only a delivered work note stains, only the token and start clean. */
public final class Promise13Stained {
    private static final Check check = new Check();

    public static void main(String[] args) {
        check.section("Promise 13");
        answers();
        becomesStainedAndClean();
        nothingChanges();
        check.endOfSection();
    }

    private static void answers() {
        check.sentence("stained(p) answers whether process p is stained; false if p is outside 0 .. N-1");
        check.inEveryScene(x -> {
            for (int p : new int[] {-1, 3, 7, 8, Integer.MIN_VALUE, Integer.MAX_VALUE}) {
                check.answers(x, "stained(" + p + ") = false");
            }
        });
        EngagementTree x = Scenes.drawnIn(8, 8, 7);
        check.answers(x, "stained(7) = true", "stained(0) = false", "stained(6) = false", "stained(8) = false",
            "stained(-1) = false");
    }

    private static void becomesStainedAndClean() {
        check.sentence("A process becomes stained only by the delivery of a FLYING note to it");
        EngagementTree x = new EngagementTree(3, 8);
        stains(x, false, false, false);
        x.start();
        x.work(0, 1);
        x.send(0, 1);
        x.send(0, 0);
        stains(x, false, false, false);
        x.deliver(0);
        stains(x, false, true, false);
        x.deliver(1);
        stains(x, true, true, false);
        x.deliver(1);
        x.rest(1);
        x.deliver(0);
        stains(x, true, true, false);
        check.answers(x, "passToken() = BUSY");
        stains(x, true, true, false);
        x.rest(0);
        check.answers(x, "verdict() = TREE", "start() = REFUSED");
        stains(x, true, true, false);
        x.passToken();
        stains(x, false, true, false);
        x.passToken();
        stains(x, false, true, false);
        x.passToken();
        stains(x, false, false, false);
        x.settle();
        x.start();
        stains(x, false, false, false);
        Walk.everyStep(Promise13Stained::everyChangeIsAllowed);
    }

    private static void everyChangeIsAllowed(Walk.Step step) {
        for (int p = 0; p < step.walk().n; p++) {
            String question = "stained(" + p + ")";
            int was = step.before().answer(question);
            int is = step.after().answer(question);
            if (is > was) {
                boolean delivery = step.call().isA("deliver") && step.answer() > EngagementTree.FREE;
                check.holds(step.call() + " may stain " + p,
                    delivery && step.after().answer("note(" + step.call().argument(0) + ")") % 8 == p);
            } else if (is < was) {
                boolean byToken = step.call().isA("settle")
                    || step.call().isA("passToken") && step.before().answer("token()") / 2 == p;
                check.holds(step.call() + " may clean " + p, byToken || step.startsAnew());
            }
        }
    }

    private static void stains(EngagementTree x, boolean... due) {
        for (int p = 0; p < due.length; p++) {
            check.answers(x, "stained(" + p + ") = " + due[p]);
        }
    }

    private static void nothingChanges() {
        check.sentence("Nothing changes by asking");
        Walk.compareAskedAndUnasked(check, x -> Walk.arguments().forEach(x::stained));
    }
}
