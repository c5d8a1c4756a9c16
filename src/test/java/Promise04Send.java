/** Promise 4, sentence by sentence: send takes the lowest free slot and leaves the receiver alone. */
public final class Promise04Send {
    private static final Check check = new Check();

    public static void main(String[] args) {
        check.section("Promise 4");
        toOthersAndItself();
        wrongProcesses();
        notActive();
        full();
        lowestFreeSlot();
        answersTheSlot();
        deficitGrows();
        receiverStays();
        restStays();
        check.endOfSection();
    }

    private static void toOthersAndItself() {
        check.sentence("send(p, q): process p sends a work note to process q; q may equal p");
        EngagementTree x = Scenes.started(3, 8);
        check.call(x, "send(0, 2) = 0", "note(0) = 66", "deficit(0) = 1", "tally(0, 2) = 1");
        check.call(x, "send(0, 0) = 1", "note(1) = 64", "deficit(0) = 2", "tally(0, 2) = 2");
        x.deliver(0);
        check.call(x, "send(2, 2) = 2", "note(2) = 82", "deficit(2) = 1", "tally(2, 2) = 1");
        check.call(x, "send(2, 0) = 3", "note(3) = 80", "deficit(2) = 2", "tally(2, 2) = 2");
        check.call(x, "send(2, 1) = 4", "note(4) = 81", "deficit(2) = 3", "tally(2, 2) = 3");
    }

    private static void wrongProcesses() {
        check.sentence("p or q outside 0 .. N-1: BAD");
        check.inEveryScene(x -> {
            for (int wrong : new int[] {-1, 3, 7, 8, Integer.MIN_VALUE, Integer.MAX_VALUE}) {
                check.call(x, "send(" + wrong + ", " + wrong + ") = BAD");
                for (int right = 0; right < 3; right++) {
                    check.call(x, "send(" + wrong + ", " + right + ") = BAD");
                    check.call(x, "send(" + right + ", " + wrong + ") = BAD");
                }
            }
        });
    }

    private static void notActive() {
        check.sentence("p not active: NOT_ACTIVE");
        check.inEveryScene(x -> {
            for (int p = 0; p < 3; p++) {
                for (int q = 0; q < 3 && x.state(p) != EngagementTree.ACTIVE; q++) {
                    check.call(x, "send(" + p + ", " + q + ") = NOT_ACTIVE");
                }
            }
        });
        EngagementTree x = Scenes.full(3, 8, 1);
        check.call(x, "send(1, 0) = NOT_ACTIVE");
        check.call(x, "send(2, 2) = NOT_ACTIVE");
        x.rest(0);
        check.call(x, "send(0, 1) = NOT_ACTIVE");
    }

    private static void full() {
        check.sentence("No slot FREE: FULL");
        for (int m : new int[] {8, 11, 32}) {
            EngagementTree x = Scenes.full(8, m, 7);
            check.call(x, "send(0, 7) = FULL");
            check.call(x, "send(0, 0) = FULL");
            x.deliver(4);
            check.call(x, "send(7, 7) = FULL");
            x.deliver(m - 1);
            check.call(x, "send(0, 0) = FULL");
            check.call(x, "send(7, 0) = FULL");
            x.deliver(m - 1);
            check.call(x, "send(7, 3) = " + (m - 1), "note(" + (m - 1) + ") = 123", "deficit(7) = 1",
                "tally(7, 2) = 1");
            check.call(x, "send(7, 3) = FULL");
        }
    }

    private static void lowestFreeSlot() {
        check.sentence("Otherwise the lowest-numbered FREE slot becomes FLYING");
        EngagementTree x = Scenes.started(2, 8);
        for (int s = 0; s < 5; s++) {
            x.send(0, 0);
        }
        free(x, 3);
        free(x, 1);
        check.call(x, "send(0, 1) = 1", "note(1) = 65", "deficit(0) = 4", "tally(0, 2) = 6");
        check.call(x, "send(0, 0) = 3", "note(3) = 64", "deficit(0) = 5", "tally(0, 2) = 7");
        check.call(x, "send(0, 1) = 5", "note(5) = 65", "deficit(0) = 6", "tally(0, 2) = 8");
        free(x, 0);
        check.call(x, "send(0, 1) = 0", "note(0) = 65", "deficit(0) = 6", "tally(0, 2) = 9");
    }

    private static void free(EngagementTree x, int s) {
        check.answers(x, "deliver(" + s + ") = REPLYING", "deliver(" + s + ") = FREE");
    }

    private static void answersTheSlot() {
        check.sentence("The answer is that slot's number, 0 .. M-1");
        for (int m : new int[] {8, 9, 31, 32}) {
            EngagementTree x = Scenes.started(4, m);
            for (int s = 0; s < m; s++) {
                check.answers(x, "send(0, " + s % 4 + ") = " + s, "note(" + s + ") = " + (64 + s % 4));
            }
        }
    }

    private static void deficitGrows() {
        check.sentence("Through the new note deficit(p) is 1 greater");
        Walk.everyStep(step -> {
            if (step.call().isA("send") && step.answer() >= 0) {
                String deficit = "deficit(" + step.call().argument(0) + ")";
                check.due(deficit, step.after().answer(deficit), step.before().answer(deficit) + 1);
            }
        });
    }

    private static void receiverStays() {
        check.sentence("The receiver isn't changed by this call");
        EngagementTree x = Scenes.started(3, 8);
        x.send(0, 1);
        check.answers(x, "state(1) = NEUTRAL", "stained(1) = false", "parent(1) = NONE", "tally(1, 1) = 0");
        x.send(0, 0);
        check.answers(x, "state(0) = ACTIVE", "stained(0) = false", "parent(0) = NONE", "tally(0, 1) = 0");
        EngagementTree waiting = Scenes.chain(3, 8);
        waiting.rest(1);
        check.call(waiting, "send(2, 1) = 2", "note(2) = 81", "deficit(2) = 1", "tally(2, 2) = 1");
        check.answers(waiting, "state(1) = WAITING", "tally(1, 1) = 1");
    }

    private static void restStays() {
        check.sentence("The other slots, the token, all stains and the verdict don't change");
        check.inEveryScene(x -> {
            for (int p = 0; p < 3; p++) {
                if (x.state(p) == EngagementTree.ACTIVE && x.deficit(0) < 8) {
                    int s = firstFree(x);
                    check.call(x, "send(" + p + ", 2) = " + s, "note(" + s + ") = " + (64 + 8 * p + 2),
                        "deficit(" + p + ") = " + (x.deficit(p) + 1), "tally(" + p + ", 2) = " + (x.tally(p, 2) + 1));
                }
            }
        });
    }

    private static int firstFree(EngagementTree x) {
        int s = 0;
        while (s < 8 && x.note(s) != 0) {
            s++;
        }
        return s;
    }
}
