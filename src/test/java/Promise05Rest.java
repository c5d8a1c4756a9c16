/** Promise 5, sentence by sentence: rest makes a process idle, sends its last acknowledgement, may announce TREE. */
public final class Promise05Rest {
    private static final Check check = new Check();

    public static void main(String[] args) {
        check.section("Promise 5");
        becomesIdle();
        wrongProcess();
        notActive();
        inThisOrder();
        answersOk();
        goesHomeOrWaits();
        root();
        restStays();
        check.endOfSection();
    }

    private static void becomesIdle() {
        check.sentence("rest(p): process p becomes idle");
        EngagementTree x = Scenes.chain(3, 8);
        for (int p = 0; p < 3; p++) {
            check.answers(x, "state(" + p + ") = ACTIVE", "rest(" + p + ") = OK", "work(" + p + ", 1) = NOT_ACTIVE",
                "send(" + p + ", 0) = NOT_ACTIVE");
        }
        check.answers(x, "state(0) = WAITING", "state(1) = WAITING", "state(2) = NEUTRAL");
    }

    private static void wrongProcess() {
        check.sentence("p outside 0 .. N-1: BAD");
        check.inEveryScene(x -> {
            for (int p : new int[] {-1, 3, 7, 8, Integer.MIN_VALUE, Integer.MAX_VALUE}) {
                check.call(x, "rest(" + p + ") = BAD");
            }
        });
    }

    private static void notActive() {
        check.sentence("p not active: NOT_ACTIVE");
        check.inEveryScene(x -> {
            for (int p = 0; p < 3; p++) {
                if (x.state(p) != EngagementTree.ACTIVE) {
                    check.call(x, "rest(" + p + ") = NOT_ACTIVE");
                }
            }
        });
        EngagementTree x = Scenes.treeAlone(3, 8);
        check.call(x, "rest(0) = NOT_ACTIVE");
        EngagementTree waiting = Scenes.chain(3, 8);
        waiting.rest(1);
        check.call(waiting, "rest(1) = NOT_ACTIVE");
    }

    // The rule comes last: at p's own homecoming its note is on its way, so TREE can't be announced yet.
    private static void inThisOrder() {
        check.sentence("Otherwise, in this order: p is no longer active; then homecoming of p");
        EngagementTree x = Scenes.drawnIn(3, 8, 2);
        check.call(x, "rest(0) = OK", "state(0) = WAITING");
        check.call(x, "rest(2) = OK", "state(2) = NEUTRAL", "parent(2) = NONE", "note(0) = 194");
        check.call(x, "deliver(0) = FREE", "note(0) = 0", "deficit(0) = 0", "state(0) = NEUTRAL",
            "verdict() = TREE", "result(1) = 5");
    }

    private static void answersOk() {
        check.sentence("The answer is OK, whether or not something was announced");
        EngagementTree announced = Scenes.started(3, 8);
        check.call(announced, "rest(0) = OK", "state(0) = NEUTRAL", "verdict() = TREE", "result(1) = 1");
        EngagementTree silent = Scenes.drawnIn(3, 8, 1);
        check.call(silent, "rest(0) = OK", "state(0) = WAITING");
        check.call(silent, "rest(1) = OK", "state(1) = NEUTRAL", "parent(1) = NONE", "note(0) = 193");
        check.answers(silent, "verdict() = 0");
    }

    private static void goesHomeOrWaits() {
        check.sentence("So a process p other than 0 with deficit(p) 0 has its HELD note become REPLYING");
        EngagementTree leaf = Scenes.drawnIn(3, 8, 2);
        check.call(leaf, "rest(2) = OK", "state(2) = NEUTRAL", "parent(2) = NONE", "note(0) = 194");
        EngagementTree x = Scenes.drawnIn(3, 8, 1);
        x.send(1, 2);
        x.send(1, 1);
        check.call(x, "rest(1) = OK", "state(1) = WAITING");
        check.answers(x, "note(0) = 129", "parent(1) = 0", "deficit(1) = 2");
        x.deliver(2);
        check.call(x, "rest(1) = OK", "state(1) = WAITING");
        x.deliver(2);
        check.answers(x, "deficit(1) = 1", "note(0) = 129");
        x.deliver(1);
        check.call(x, "rest(2) = OK", "state(2) = NEUTRAL", "parent(2) = NONE", "note(1) = 202");
        check.answers(x, "state(1) = WAITING", "note(0) = 129");
        EngagementTree paid = Scenes.chain(3, 8);
        paid.rest(2);
        paid.deliver(1);
        check.call(paid, "rest(1) = OK", "state(1) = NEUTRAL", "parent(1) = NONE", "note(0) = 193");
    }

    private static void root() {
        check.sentence("For process 0, homecoming does nothing; if no other process is active");
        EngagementTree alone = Scenes.started(3, 8);
        alone.work(0, 42);
        check.call(alone, "rest(0) = OK", "state(0) = NEUTRAL", "verdict() = TREE", "result(0) = 42", "result(1) = 1");
        EngagementTree flying = Scenes.started(3, 8);
        flying.send(0, 1);
        check.call(flying, "rest(0) = OK", "state(0) = WAITING");
        EngagementTree otherActive = Scenes.drawnIn(3, 8, 1);
        check.call(otherActive, "rest(0) = OK", "state(0) = WAITING");
        EngagementTree replying = Scenes.drawnIn(3, 8, 1);
        replying.rest(1);
        check.call(replying, "rest(0) = OK", "state(0) = WAITING");
        EngagementTree allBack = Scenes.drawnIn(3, 8, 1);
        allBack.work(1, 8);
        allBack.rest(1);
        allBack.deliver(0);
        check.answers(allBack, "verdict() = 0");
        check.call(allBack, "rest(0) = OK", "state(0) = NEUTRAL", "verdict() = TREE", "result(0) = 8",
            "result(1) = 3");
        EngagementTree again = Scenes.started(3, 8);
        again.send(0, 0);
        check.call(again, "rest(0) = OK", "state(0) = WAITING");
        again.deliver(0);
        again.deliver(0);
        check.call(again, "rest(0) = OK", "state(0) = NEUTRAL", "verdict() = TREE", "result(1) = 1");
    }

    private static void restStays() {
        check.sentence("Stains, tallies, the token and the RING bit don't change");
        Walk.everyStep(step -> {
            if (step.call().isA("rest")) {
                for (String changed : step.after().changesSince(step.before()).keySet()) {
                    boolean mayChange = !changed.matches("(stained|tally|token).*|result\\(2\\)");
                    check.holds("rest leaves " + changed, mayChange);
                }
                int ringBefore = step.before().answer("verdict()") & EngagementTree.RING;
                check.due("the RING bit", step.after().answer("verdict()") & EngagementTree.RING, ringBefore);
            }
        });
        EngagementTree x = Scenes.started(3, 8);
        x.send(0, 0);
        x.send(0, 1);
        x.deliver(0);
        x.deliver(1);
        x.work(0, 5);
        check.call(x, "rest(0) = OK", "state(0) = WAITING");
        check.answers(x, "stained(0) = true", "token() = 1", "tally(0, 0) = 5", "tally(0, 1) = 1", "tally(0, 2) = 2");
    }
}
