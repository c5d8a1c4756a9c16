/** Promise 8, sentence by sentence: settle delivers the acknowledgements, then passes the token while it can. */
public final class Promise08Settle {
    private static final Check check = new Check();

    public static void main(String[] args) {
        check.section("Promise 8");
        twoParts();
        acknowledgementsAsByDeliver();
        thoseOnTheWayToo();
        leavesFlyingNotes();
        tokenAsByPassToken();
        answersTheVerdict();
        neverRefused();
        tokenNotHandled();
        beforeTheFirstStart();
        nobodyAwakes();
        check.endOfSection();
    }

    private static void twoParts() {
        check.sentence("settle() delivers the control messages, in two parts");
        EngagementTree x = Scenes.drawnIn(3, 8, 1);
        x.work(1, 6);
        x.rest(1);
        x.rest(0);
        check.call(x, "settle() = TREE + RING", "note(0) = 0", "deficit(0) = 0", "state(0) = NEUTRAL",
            "stained(1) = false", "token() = 0", "verdict() = TREE + RING",
            "result(0) = 6", "result(1) = 3", "result(2) = 1");
    }

    /** What settle does, step by step with the calls that it stands for; a deliver(-1) does nothing. */
    private static int stepByStep(EngagementTree x, int n, int m) {
        for (int i = 0; i < m; i++) {
            x.deliver(lowestReplying(x, m));
        }
        int passes = 0;
        while (passes < 3 * n && x.passToken() == EngagementTree.OK) {
            passes++;
        }
        return x.verdict();
    }

    private static int lowestReplying(EngagementTree x, int m) {
        for (int s = 0; s < m; s++) {
            if (x.note(s) / 64 == EngagementTree.REPLYING) {
                return s;
            }
        }
        return -1;
    }

    private static void acknowledgementsAsByDeliver() {
        check.sentence("First: as long as some slot is REPLYING, the lowest-numbered REPLYING slot");
        for (int number = 0; number < 300; number++) {
            Walk walk = new Walk(number);
            EngagementTree settled = new EngagementTree(walk.n, walk.m);
            EngagementTree stepped = new EngagementTree(walk.n, walk.m);
            for (int i = 0; i < 120; i++) {
                Call call = walk.next();
                call.on(settled);
                call.on(stepped);
                if (i % 20 == 19) {
                    check.due("walk " + number + ", settle()", settled.settle(), stepByStep(stepped, walk.n, walk.m));
                    check.due("walk " + number + ", differences after settle()",
                        Look.at(settled).changesSince(Look.at(stepped)).size(), 0);
                }
            }
        }
        for (int m : new int[] {8, 9, 32}) {
            EngagementTree x = Scenes.full(2, m, 0);
            for (int s = 0; s < m; s++) {
                x.deliver(s);
            }
            check.answers(x, "settle() = 0", "deficit(0) = 0");
        }
    }

    private static void thoseOnTheWayToo() {
        check.sentence("Slots that become REPLYING on the way are included");
        EngagementTree x = Scenes.drawnIn(8, 32, 1);
        for (int p = 1; p < 7; p++) {
            x.send(p, p + 1);
            x.deliver(p);
        }
        for (int p = 0; p < 8; p++) {
            x.rest(p);
        }
        check.answers(x, "note(6) = 247", "note(5) = 174", "settle() = TREE + RING", "result(1) = 255",
            "result(2) = 7");
        // The slot that becomes REPLYING may be above or below the one that is delivered.
        EngagementTree above = Scenes.started(3, 8);
        above.send(0, 1);
        above.send(0, 1);
        above.deliver(1);
        above.deliver(0);
        above.deliver(0);
        above.send(1, 2);
        above.deliver(0);
        above.rest(1);
        above.rest(2);
        check.answers(above, "note(0) = 202", "note(1) = 129");
        check.call(above, "settle() = 0", "note(0) = 0", "note(1) = 0", "deficit(0) = 0", "deficit(1) = 0",
            "state(1) = NEUTRAL", "parent(1) = NONE");
    }

    private static void leavesFlyingNotes() {
        check.sentence("FLYING slots aren't touched");
        EngagementTree x = Scenes.started(2, 8);
        x.send(0, 1);
        x.send(0, 1);
        x.send(0, 1);
        x.deliver(1);
        x.deliver(2);
        check.call(x, "settle() = 0", "note(2) = 0", "deficit(0) = 2");
        x.rest(1);
        check.call(x, "settle() = 0", "note(1) = 0", "deficit(0) = 1");
        x.rest(0);
        check.call(x, "settle() = 0", "token() = 0", "stained(1) = false");
        check.answers(x, "note(0) = 65", "deliver(0) = HELD");
    }

    private static void tokenAsByPassToken() {
        check.sentence("Then: passToken is done again and again, exactly as by a call of it");
        stopsAtBusy();
        for (int n = 2; n <= 8; n++) {
            stopsAfterThreeRounds(n);
            announcesAfterTheLongestWay(n);
        }
    }

    private static void stopsAtBusy() {
        EngagementTree x = Scenes.started(4, 8);
        x.send(0, 2);
        x.send(0, 3);
        x.rest(0);
        x.deliver(0);
        x.deliver(1);
        x.rest(3);
        check.call(x, "settle() = 0", "note(1) = 0", "deficit(0) = 1", "stained(3) = false", "token() = 5");
        check.call(x, "settle() = 0");
    }

    // Whole rounds end where they began, so a pass too many or too few shows in the token's place.
    private static void stopsAfterThreeRounds(int n) {
        EngagementTree x = Scenes.started(n, 8);
        x.send(0, 1);
        x.rest(0);
        check.call(x, "settle() = 0", "token() = 0");
        check.call(x, "settle() = 0");
        x.passToken();
        check.answers(x, "token() = " + 2 * (n - 1));
        check.call(x, "settle() = 0");
    }

    // No quiet run needs more: the token has passed N-1 when a note stains it, so that a clean
    // and a stained round come to nothing before the clean one that counts.
    private static void announcesAfterTheLongestWay(int n) {
        EngagementTree x = Scenes.started(n, 8);
        x.send(0, n - 1);
        x.rest(0);
        x.passToken();
        x.passToken();
        x.deliver(0);
        x.rest(n - 1);
        check.answers(x, "token() = " + 2 * (n - 2), "settle() = TREE + RING");
    }

    private static void answersTheVerdict() {
        check.sentence("The answer is the verdict then reached, as verdict() gives it");
        EngagementTree none = Scenes.chain(3, 8);
        check.answers(none, "settle() = 0", "verdict() = 0");
        EngagementTree both = Scenes.treeAlone(3, 8);
        check.answers(both, "settle() = TREE + RING", "verdict() = TREE + RING");
        EngagementTree ring = Scenes.ringAlone(3, 8);
        check.answers(ring, "verdict() = RING", "settle() = TREE + RING", "verdict() = TREE + RING");
        Walk.everyStep(step -> {
            if (step.call().isA("settle")) {
                check.due("settle()", step.answer(), step.after().answer("verdict()"));
            }
        });
    }

    private static void neverRefused() {
        check.sentence("settle is never refused");
        check.inEveryScene(x -> {
            for (int again = 0; again < 3; again++) {
                int answer = x.settle();
                check.holds("settle() answers a verdict, " + answer, answer >= 0 && answer <= 3);
                check.due("settle()", answer, x.verdict());
            }
        });
    }

    private static void tokenNotHandled() {
        check.sentence("If the token can't be handled (REFUSED or BUSY at the first try)");
        EngagementTree busy = Scenes.started(3, 8);
        check.call(busy, "settle() = 0");
        busy.send(0, 1);
        check.call(busy, "settle() = 0");
        EngagementTree refused = Scenes.ringAlone(3, 8);
        check.call(refused, "settle() = TREE + RING", "note(0) = 0", "deficit(0) = 0", "state(0) = NEUTRAL",
            "verdict() = TREE + RING", "result(0) = 9", "result(1) = 3");
        check.call(refused, "settle() = TREE + RING");
        EngagementTree away = Scenes.started(3, 8);
        away.send(0, 2);
        away.rest(0);
        away.passToken();
        away.deliver(0);
        check.answers(away, "passToken() = BUSY");
        check.call(away, "settle() = 0");
    }

    private static void beforeTheFirstStart() {
        check.sentence("Before the first start it changes nothing and answers 0");
        for (int n = 2; n <= 8; n++) {
            EngagementTree x = new EngagementTree(n, 4 * n);
            check.call(x, "settle() = 0");
            check.call(x, "settle() = 0");
            check.call(x, "start() = OK", "state(0) = ACTIVE", "token() = 1");
        }
    }

    private static void nobodyAwakes() {
        check.sentence("No process becomes active or stained by settle, and no tally changes");
        check.inEveryScene(Promise08Settle::awakesNobody);
        for (int number = 0; number < 300; number++) {
            Walk walk = new Walk(number);
            EngagementTree x = new EngagementTree(walk.n, walk.m);
            for (int i = 0; i < 120; i++) {
                walk.next().on(x);
                if (i % 12 == 11) {
                    awakesNobody(x);
                }
            }
        }
    }

    private static void awakesNobody(EngagementTree x) {
        Look before = Look.at(x);
        x.settle();
        Look after = Look.at(x);
        for (int p = 0; p < 8; p++) {
            String state = "state(" + p + ")";
            String stained = "stained(" + p + ")";
            boolean wasActive = before.answer(state) == EngagementTree.ACTIVE;
            check.due(p + " is active", after.answer(state) == EngagementTree.ACTIVE ? 1 : 0, wasActive ? 1 : 0);
            check.holds(p + " isn't stained", after.answer(stained) <= before.answer(stained));
            for (int what = 0; what < 3; what++) {
                String tally = "tally(" + p + ", " + what + ")";
                check.due(tally, after.answer(tally), before.answer(tally));
            }
        }
    }
}
