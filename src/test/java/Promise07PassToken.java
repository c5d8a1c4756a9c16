/** Promise 7, sentence by sentence: the token goes round and announces RING only when all is clean and still. */
public final class Promise07PassToken {
    private static final Check check = new Check();

    public static void main(String[] args) {
        check.section("Promise 7");
        holderHandlesIt();
        refused();
        busy();
        passedDown();
        answersOk();
        announces();
        heldAndReplyingDontMatter();
        sentRoundAnew();
        oneStepAtMost();
        restStays();
        otherStainsStay();
        check.endOfSection();
    }

    private static void holderHandlesIt() {
        check.sentence("passToken(): the process h that has the token handles it");
        EngagementTree x = Scenes.started(3, 8);
        x.rest(0);
        check.call(x, "passToken() = OK", "token() = 4");
        check.call(x, "passToken() = OK", "token() = 2");
        check.call(x, "passToken() = OK", "token() = 0");
        check.call(x, "passToken() = ANNOUNCED", "verdict() = TREE + RING");
    }

    private static void refused() {
        check.sentence("No computation ever started, or RING announced: REFUSED");
        EngagementTree fresh = new EngagementTree(3, 8);
        check.call(fresh, "passToken() = REFUSED");
        check.call(fresh, "passToken() = REFUSED");
        EngagementTree ring = Scenes.ringAlone(3, 8);
        check.call(ring, "passToken() = REFUSED");
        ring.deliver(0);
        check.call(ring, "passToken() = REFUSED");
        ring.start();
        check.call(ring, "passToken() = BUSY");
        EngagementTree tree = Scenes.treeAlone(3, 8);
        check.call(tree, "passToken() = OK", "token() = 4");
    }

    private static void busy() {
        check.sentence("h active: BUSY");
        EngagementTree x = Scenes.started(3, 8);
        check.call(x, "passToken() = BUSY");
        x.send(0, 1);
        x.send(0, 2);
        x.rest(0);
        x.deliver(0);
        x.deliver(1);
        check.call(x, "passToken() = OK", "token() = 4");
        check.call(x, "passToken() = BUSY");
        x.rest(2);
        check.call(x, "passToken() = OK", "token() = 3", "stained(2) = false");
        check.call(x, "passToken() = BUSY");
        x.send(1, 0);
        x.rest(1);
        check.call(x, "passToken() = OK", "token() = 1", "stained(1) = false");
        x.deliver(2);
        check.call(x, "passToken() = BUSY");
    }

    private static void passedDown() {
        check.sentence("h not 0: if h is stained the token becomes stained, else the token's stain stays");
        EngagementTree x = Scenes.started(5, 8);
        x.send(0, 3);
        x.send(0, 1);
        x.deliver(0);
        x.deliver(1);
        x.rest(3);
        x.rest(1);
        x.rest(0);
        check.call(x, "passToken() = OK", "token() = 8");
        check.call(x, "passToken() = OK", "token() = 6");
        check.call(x, "passToken() = OK", "token() = 5", "stained(3) = false");
        check.call(x, "passToken() = OK", "token() = 3");
        check.call(x, "passToken() = OK", "token() = 1", "stained(1) = false");
        // Idle but engaged is enough to pass it on.
        EngagementTree waiting = Scenes.chain(3, 8);
        waiting.rest(2);
        waiting.rest(1);
        waiting.rest(0);
        check.answers(waiting, "state(1) = WAITING", "passToken() = OK", "passToken() = OK");
        check.call(waiting, "passToken() = OK", "token() = 1", "stained(1) = false");
    }

    private static void answersOk() {
        check.sentence("The answer is OK");
        for (int n = 2; n <= 8; n++) {
            EngagementTree x = Scenes.treeAlone(n, 8);
            x.passToken();
            for (int h = n - 1; h > 0; h--) {
                check.answers(x, "token() = " + 2 * h, "passToken() = OK");
            }
            check.answers(x, "token() = 0");
        }
    }

    private static void announces() {
        check.sentence("h = 0, and the token is clean, every process is clean (process 0 included)");
        EngagementTree quiet = Scenes.started(2, 8);
        quiet.rest(0);
        quiet.passToken();
        quiet.passToken();
        check.call(quiet, "passToken() = ANNOUNCED", "verdict() = TREE + RING");
        check.answers(quiet, "token() = 0");
        stainedTokenHoldsItBack();
        flyingNoteHoldsItBack();
        activeProcessHoldsItBack();
        stainedProcessHoldsItBack();
        stainedRootHoldsItBack();
    }

    private static void stainedTokenHoldsItBack() {
        EngagementTree fromStart = Scenes.treeAlone(2, 8);
        check.answers(fromStart, "token() = 1", "stained(0) = false", "stained(1) = false");
        check.call(fromStart, "passToken() = OK", "token() = 2");
        EngagementTree onItsWay = Scenes.drawnIn(2, 8, 1);
        onItsWay.rest(1);
        onItsWay.rest(0);
        onItsWay.passToken();
        onItsWay.passToken();
        check.answers(onItsWay, "token() = 1", "stained(0) = false", "stained(1) = false");
        check.call(onItsWay, "passToken() = OK", "token() = 2");
        check.call(onItsWay, "passToken() = OK", "token() = 0");
        check.call(onItsWay, "passToken() = ANNOUNCED", "verdict() = RING", "result(2) = 1");
    }

    private static void flyingNoteHoldsItBack() {
        EngagementTree x = Scenes.started(2, 8);
        x.send(0, 1);
        x.rest(0);
        for (int round = 0; round < 3; round++) {
            check.call(x, "passToken() = OK", "token() = 2");
            check.call(x, "passToken() = OK", "token() = 0");
        }
    }

    /** A note from 0 to q is under way, and the token goes round clean, handled by those above h. */
    private static EngagementTree tokenAt(int h, int q) {
        EngagementTree x = Scenes.started(3, 8);
        x.send(0, q);
        x.rest(0);
        x.passToken();
        for (int p = 2; p > h; p--) {
            x.passToken();
        }
        check.answers(x, "token() = " + 2 * h);
        return x;
    }

    private static void tokenHome(EngagementTree x, int h) {
        for (int p = h; p > 0; p--) {
            check.answers(x, "passToken() = OK");
        }
        check.answers(x, "token() = 0");
    }

    private static void activeProcessHoldsItBack() {
        for (int p = 1; p <= 2; p++) {
            EngagementTree x = tokenAt(p - 1, p);
            x.deliver(0);
            tokenHome(x, p - 1);
            check.answers(x, "state(" + p + ") = ACTIVE");
            check.call(x, "passToken() = OK", "token() = 4");
        }
    }

    private static void stainedProcessHoldsItBack() {
        for (int p = 1; p <= 2; p++) {
            EngagementTree x = tokenAt(p - 1, p);
            x.deliver(0);
            x.rest(p);
            tokenHome(x, p - 1);
            check.answers(x, "stained(" + p + ") = true", "state(" + p + ") = NEUTRAL");
            check.call(x, "passToken() = OK", "token() = 4");
        }
    }

    private static void stainedRootHoldsItBack() {
        EngagementTree x = tokenAt(2, 0);
        x.deliver(0);
        x.rest(0);
        tokenHome(x, 2);
        check.call(x, "passToken() = OK", "token() = 4", "stained(0) = false");
        check.call(x, "passToken() = OK", "token() = 2");
        check.call(x, "passToken() = OK", "token() = 0");
        check.call(x, "passToken() = ANNOUNCED", "verdict() = RING", "result(2) = 1");
    }

    private static void heldAndReplyingDontMatter() {
        check.sentence("Notes HELD or REPLYING don't matter, nor does it matter whether TREE is announced");
        EngagementTree x = Scenes.chain(3, 8);
        x.rest(0);
        x.rest(1);
        x.rest(2);
        check.answers(x, "note(0) = 129", "note(1) = 202", "verdict() = 0");
        for (int i = 0; i < 6; i++) {
            check.answers(x, "passToken() = OK");
        }
        check.call(x, "passToken() = ANNOUNCED", "verdict() = RING", "result(2) = 2");
        EngagementTree tree = Scenes.treeAlone(3, 8);
        for (int i = 0; i < 3; i++) {
            check.answers(tree, "passToken() = OK");
        }
        check.call(tree, "passToken() = ANNOUNCED", "verdict() = TREE + RING");
    }

    private static void sentRoundAnew() {
        check.sentence("h = 0 otherwise: the token becomes clean, process 0 becomes clean");
        for (int n = 2; n <= 8; n++) {
            EngagementTree x = Scenes.started(n, 8);
            x.send(0, 0);
            x.deliver(0);
            x.rest(0);
            check.call(x, "passToken() = OK", "token() = " + 2 * (n - 1), "stained(0) = false");
            EngagementTree cleanToken = Scenes.started(n, 8);
            cleanToken.send(0, 1);
            cleanToken.rest(0);
            for (int i = 0; i <= n - 1; i++) {
                cleanToken.passToken();
            }
            check.answers(cleanToken, "token() = 0");
            check.call(cleanToken, "passToken() = OK", "token() = " + 2 * (n - 1));
        }
    }

    private static void oneStepAtMost() {
        check.sentence("One call moves the token by at most one process");
        Walk.everyStep(step -> {
            if (step.call().isA("passToken") && step.answer() >= 0) {
                int n = step.walk().n;
                int was = step.before().answer("token()") / 2;
                int due = step.answer() == EngagementTree.ANNOUNCED ? 0 : (was + n - 1) % n;
                check.due("the token's place", step.after().answer("token()") / 2, due);
            }
        });
    }

    private static void restStays() {
        check.sentence("No slot, no tally, no process's being active or engaged, and not the TREE bit is changed");
        Walk.everyStep(step -> {
            if (step.call().isA("passToken")) {
                for (String changed : step.after().changesSince(step.before()).keySet()) {
                    check.holds("passToken leaves " + changed,
                        changed.matches("token\\(\\)|verdict\\(\\)|result\\(2\\)|stained\\(\\d\\)"));
                }
                int treeBefore = step.before().answer("verdict()") & EngagementTree.TREE;
                check.due("the TREE bit", step.after().answer("verdict()") & EngagementTree.TREE, treeBefore);
            }
        });
    }

    private static void otherStainsStay() {
        check.sentence("The stains of processes other than h don't change");
        EngagementTree x = Scenes.started(4, 8);
        for (int q = 0; q < 4; q++) {
            x.send(0, q);
            x.deliver(q);
        }
        for (int p = 0; p < 4; p++) {
            x.rest(p);
        }
        check.call(x, "passToken() = OK", "token() = 6", "stained(0) = false");
        check.call(x, "passToken() = OK", "token() = 5", "stained(3) = false");
        check.call(x, "passToken() = OK", "token() = 3", "stained(2) = false");
        check.call(x, "passToken() = OK", "token() = 1", "stained(1) = false");
        check.call(x, "passToken() = OK", "token() = 6");
        Walk.everyStep(step -> {
            if (step.call().isA("passToken")) {
                int h = step.before().answer("token()") / 2;
                for (String changed : step.after().changesSince(step.before()).keySet()) {
                    boolean other = changed.startsWith("stained") && !changed.equals("stained(" + h + ")");
                    check.holds("passToken at " + h + " leaves " + changed, !other);
                }
            }
        });
    }
}
