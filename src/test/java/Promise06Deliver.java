/** Promise 6, sentence by sentence: deliver brings work to its receiver and acknowledgements to their sender. */
public final class Promise06Deliver {
    private static final Check check = new Check();

    public static void main(String[] args) {
        check.section("Promise 6");
        deliversWhatIsThere();
        wrongSlot();
        nothingToDeliver();
        workIsHeldOrAnswered();
        receiverAwakes();
        answersTheStage();
        workLeavesTheRest();
        acknowledgement();
        nobodyAwakes();
        answersFree();
        acknowledgementLeavesTheRest();
        anyOrder();
        rootAsReceiver();
        check.endOfSection();
    }

    private static void deliversWhatIsThere() {
        check.sentence("deliver(s): the network delivers what is in slot s");
        EngagementTree x = Scenes.started(3, 8);
        x.send(0, 1);
        x.send(0, 2);
        check.call(x, "deliver(1) = HELD", "note(1) = 130", "state(2) = ACTIVE", "parent(2) = 0",
            "stained(2) = true", "tally(2, 1) = 1");
        check.call(x, "deliver(0) = HELD", "note(0) = 129", "state(1) = ACTIVE", "parent(1) = 0",
            "stained(1) = true", "tally(1, 1) = 1");
        x.rest(2);
        check.call(x, "deliver(1) = FREE", "note(1) = 0", "deficit(0) = 1");
    }

    private static void wrongSlot() {
        check.sentence("s outside 0 .. M-1: BAD");
        check.inEveryScene(x -> {
            for (int s : new int[] {-1, 8, 9, 31, 32, Integer.MIN_VALUE, Integer.MAX_VALUE}) {
                check.call(x, "deliver(" + s + ") = BAD");
            }
        });
        EngagementTree x = Scenes.full(3, 32, 1);
        check.call(x, "deliver(32) = BAD");
        check.call(x, "deliver(-1) = BAD");
        check.answers(x, "deliver(31) = HELD");
    }

    private static void nothingToDeliver() {
        check.sentence("Slot s FREE or HELD: REFUSED");
        check.inEveryScene(x -> {
            for (int s = 0; s < 8; s++) {
                int stage = x.note(s) / 64;
                if (stage == EngagementTree.FREE || stage == EngagementTree.HELD) {
                    check.call(x, "deliver(" + s + ") = REFUSED");
                }
            }
        });
        EngagementTree x = Scenes.chain(3, 8);
        check.call(x, "deliver(0) = REFUSED");
        x.rest(1);
        check.call(x, "deliver(0) = REFUSED");
        x.rest(2);
        check.call(x, "deliver(0) = REFUSED");
        x.deliver(1);
        check.call(x, "deliver(1) = REFUSED");
        x.deliver(0);
        check.call(x, "deliver(0) = REFUSED");
    }

    private static void workIsHeldOrAnswered() {
        check.sentence("Slot s FLYING, with receiver q: if q is engaged (before this delivery)");
        EngagementTree x = Scenes.started(4, 8);
        x.send(0, 2);
        x.send(0, 2);
        check.call(x, "deliver(1) = HELD", "note(1) = 130", "state(2) = ACTIVE", "parent(2) = 0",
            "stained(2) = true", "tally(2, 1) = 1");
        check.call(x, "deliver(0) = REPLYING", "note(0) = 194", "tally(2, 1) = 2");
        EngagementTree waiting = Scenes.chain(4, 8);
        waiting.rest(1);
        waiting.send(2, 1);
        check.call(waiting, "deliver(2) = REPLYING", "note(2) = 209", "state(1) = ACTIVE", "tally(1, 1) = 2");
        check.answers(waiting, "parent(1) = 0", "note(0) = 129");
        EngagementTree itself = Scenes.drawnIn(2, 8, 1);
        itself.send(1, 1);
        itself.rest(1);
        check.call(itself, "deliver(1) = REPLYING", "note(1) = 201", "state(1) = ACTIVE", "tally(1, 1) = 2");
        EngagementTree home = Scenes.drawnIn(3, 8, 1);
        home.rest(1);
        home.send(0, 1);
        check.call(home, "deliver(1) = HELD", "note(1) = 129", "state(1) = ACTIVE", "parent(1) = 0", "tally(1, 1) = 2");
    }

    private static void receiverAwakes() {
        check.sentence("In both cases q becomes active (or stays so), q becomes stained (or stays so)");
        Walk.everyStep(step -> {
            if (step.call().isA("deliver") && step.answer() > EngagementTree.FREE) {
                int q = step.before().answer("note(" + step.call().argument(0) + ")") % 8;
                String tally = "tally(" + q + ", 1)";
                check.due("state(" + q + ")", step.after().answer("state(" + q + ")"), EngagementTree.ACTIVE);
                check.due("stained(" + q + ")", step.after().answer("stained(" + q + ")"), 1);
                check.due(tally, step.after().answer(tally), step.before().answer(tally) + 1);
            }
        });
        EngagementTree cleaned = Scenes.started(2, 8);
        cleaned.send(0, 0);
        cleaned.send(0, 0);
        cleaned.deliver(0);
        cleaned.rest(0);
        cleaned.passToken();
        check.call(cleaned, "deliver(1) = REPLYING", "note(1) = 192", "state(0) = ACTIVE", "stained(0) = true",
            "tally(0, 1) = 2");
    }

    private static void answersTheStage() {
        check.sentence("The answer is the new stage, REPLYING or HELD");
        EngagementTree x = Scenes.full(4, 32, 3);
        for (int i = 0; i < 32; i++) {
            int s = (i * 11 + 5) % 32;
            check.answers(x, "deliver(" + s + ") = " + (i == 0 ? "HELD" : "REPLYING"),
                "note(" + s + ") = " + (i == 0 ? 131 : 195));
        }
    }

    private static void workLeavesTheRest() {
        check.sentence("Sender and receiver of the note stay, the sender's deficit stays");
        Walk.everyStep(step -> {
            if (step.call().isA("deliver") && step.answer() > EngagementTree.FREE) {
                String note = "note(" + step.call().argument(0) + ")";
                int was = step.before().answer(note);
                int q = was % 8;
                check.due(note, step.after().answer(note), was % 64 + 64 * step.answer());
                for (String changed : step.after().changesSince(step.before()).keySet()) {
                    check.holds(step.call() + " leaves " + changed, changed.equals(note)
                        || changed.matches("(state|stained|parent)\\(" + q + "\\)|tally\\(" + q + ", 1\\)"));
                }
            }
        });
    }

    private static void acknowledgement() {
        check.sentence("Slot s REPLYING, with sender p: in this order, the slot becomes FREE");
        EngagementTree x = Scenes.drawnIn(4, 8, 1);
        x.send(1, 2);
        x.send(1, 3);
        x.rest(1);
        x.deliver(1);
        x.rest(2);
        x.deliver(2);
        x.rest(3);
        check.call(x, "deliver(1) = FREE", "note(1) = 0", "deficit(1) = 1");
        check.call(x, "deliver(2) = FREE", "note(2) = 0", "deficit(1) = 0", "note(0) = 193", "state(1) = NEUTRAL",
            "parent(1) = NONE");
        check.call(x, "deliver(0) = FREE", "note(0) = 0", "deficit(0) = 0");
        EngagementTree last = Scenes.started(3, 8);
        last.work(0, 10);
        last.send(0, 1);
        last.send(0, 2);
        last.rest(0);
        last.deliver(0);
        last.deliver(1);
        last.work(2, 5);
        last.rest(1);
        last.rest(2);
        check.call(last, "deliver(1) = FREE", "note(1) = 0", "deficit(0) = 1");
        check.call(last, "deliver(0) = FREE", "note(0) = 0", "deficit(0) = 0", "state(0) = NEUTRAL",
            "verdict() = TREE", "result(0) = 15", "result(1) = 7");
        EngagementTree itself = Scenes.drawnIn(2, 8, 1);
        itself.send(1, 1);
        itself.deliver(1);
        itself.rest(1);
        check.call(itself, "deliver(1) = FREE", "note(1) = 0", "deficit(1) = 0", "note(0) = 193",
            "state(1) = NEUTRAL", "parent(1) = NONE");
    }

    private static void nobodyAwakes() {
        check.sentence("No process becomes active or stained by this");
        Walk.everyStep(step -> {
            for (int p = 0; p < 8 && delivered(step); p++) {
                String state = "state(" + p + ")";
                String stained = "stained(" + p + ")";
                check.holds(p + " isn't awakened", step.after().answer(state) <= step.before().answer(state));
                check.due(stained, step.after().answer(stained), step.before().answer(stained));
            }
        });
        EngagementTree x = Scenes.chain(3, 8);
        x.rest(2);
        x.rest(1);
        x.rest(0);
        check.call(x, "deliver(1) = FREE", "note(1) = 0", "deficit(1) = 0", "note(0) = 193", "state(1) = NEUTRAL",
            "parent(1) = NONE");
        check.answers(x, "state(0) = WAITING");
    }

    private static boolean delivered(Walk.Step step) {
        return step.call().isA("deliver") && step.answer() == EngagementTree.FREE;
    }

    private static void answersFree() {
        check.sentence("The answer is FREE");
        EngagementTree x = Scenes.full(2, 32, 0);
        for (int s = 0; s < 32; s++) {
            check.answers(x, "deliver(" + s + ") = REPLYING");
        }
        for (int s = 31; s >= 0; s--) {
            check.answers(x, "deliver(" + s + ") = FREE", "note(" + s + ") = 0");
        }
    }

    private static void acknowledgementLeavesTheRest() {
        check.sentence("Tallies, stains, the token and the RING bit don't change");
        Walk.everyStep(step -> {
            if (delivered(step)) {
                for (String changed : step.after().changesSince(step.before()).keySet()) {
                    boolean mayChange = !changed.matches("(stained|tally|token).*|result\\(2\\)");
                    check.holds("an acknowledgement leaves " + changed, mayChange);
                }
            }
        });
        EngagementTree ring = Scenes.ringAlone(3, 8);
        check.call(ring, "deliver(0) = FREE", "note(0) = 0", "deficit(0) = 0", "state(0) = NEUTRAL",
            "verdict() = TREE + RING", "result(0) = 9", "result(1) = 3");
        EngagementTree active = Scenes.chain(3, 8);
        active.rest(2);
        check.call(active, "deliver(1) = FREE", "note(1) = 0", "deficit(1) = 0");
        check.answers(active, "note(0) = 129", "state(1) = ACTIVE");
    }

    private static void anyOrder() {
        check.sentence("Any slot that is FLYING or REPLYING can be delivered at any time, in any order");
        EngagementTree x = Scenes.full(2, 32, 1);
        for (int i = 0; i < 32; i++) {
            check.answers(x, "deliver(" + i * 13 % 32 + ") = " + (i == 0 ? "HELD" : "REPLYING"));
        }
        for (int i = 1; i < 32; i++) {
            check.answers(x, "deliver(" + i * 7 % 32 + ") = FREE");
        }
        check.answers(x, "tally(1, 1) = 32", "deficit(0) = 1");
        Walk.everyStep(step -> {
            if (step.call().isA("deliver")) {
                int note = step.before().answer("note(" + Math.max(-1, Math.min(32, step.call().argument(0))) + ")");
                int stage = note < 0 ? 0 : note / 64;
                boolean deliverable = stage == EngagementTree.FLYING || stage == EngagementTree.REPLYING;
                check.holds(step.call() + " is done", deliverable == step.answer() >= 0);
            }
        });
    }

    private static void rootAsReceiver() {
        check.sentence("For process 0 as receiver: while it is engaged, a note delivered to it becomes REPLYING");
        EngagementTree x = Scenes.started(3, 8);
        x.send(0, 0);
        check.call(x, "deliver(0) = REPLYING", "note(0) = 192", "stained(0) = true", "tally(0, 1) = 1");
        x.send(0, 1);
        x.deliver(1);
        x.send(1, 0);
        x.rest(0);
        check.call(x, "deliver(2) = REPLYING", "note(2) = 200", "state(0) = ACTIVE", "tally(0, 1) = 2");
        check.answers(x, "parent(0) = NONE", "work(0, 1) = OK");
        EngagementTree own = Scenes.started(2, 8);
        own.send(0, 0);
        own.rest(0);
        check.call(own, "deliver(0) = REPLYING", "note(0) = 192", "state(0) = ACTIVE", "stained(0) = true",
            "tally(0, 1) = 1");
        check.call(own, "deliver(0) = FREE", "note(0) = 0", "deficit(0) = 0");
        check.call(own, "rest(0) = OK", "state(0) = NEUTRAL", "verdict() = TREE", "result(1) = 1");
    }
}
