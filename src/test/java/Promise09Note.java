/** Promise 9, sentence by sentence: note tells stage, sender and receiver of a slot. */
public final class Promise09Note {
    private static final Check check = new Check();

    public static void main(String[] args) {
        check.section("Promise 9");
        wrongSlot();
        free();
        taken();
        nothingChanges();
        check.endOfSection();
    }

    private static void wrongSlot() {
        check.sentence("s outside 0 .. M-1: BAD");
        check.inEveryScene(x -> {
            for (int s : new int[] {-1, 8, 9, 31, 32, Integer.MIN_VALUE, Integer.MAX_VALUE}) {
                check.answers(x, "note(" + s + ") = BAD");
            }
        });
        EngagementTree x = Scenes.full(3, 32, 1);
        check.answers(x, "note(31) = 65", "note(32) = BAD", "note(-1) = BAD");
    }

    private static void free() {
        check.sentence("Slot s FREE: 0");
        EngagementTree x = new EngagementTree(8, 10);
        for (int s = 0; s < 10; s++) {
            check.answers(x, "note(" + s + ") = 0");
        }
        x.start();
        x.send(0, 7);
        x.deliver(0);
        x.send(7, 7);
        x.deliver(1);
        x.deliver(1);
        for (int s = 1; s < 10; s++) {
            check.answers(x, "note(" + s + ") = 0");
        }
        x.rest(7);
        x.deliver(0);
        check.answers(x, "note(0) = 0");
    }

    private static void taken() {
        check.sentence("Otherwise stage * 64 + sender * 8 + receiver");
        EngagementTree x = Scenes.started(8, 10);
        x.send(0, 7);
        x.send(0, 0);
        check.answers(x, "note(0) = " + (64 + 7), "note(1) = 64");
        x.deliver(0);
        check.answers(x, "note(0) = " + (2 * 64 + 7));
        x.send(7, 7);
        x.send(7, 4);
        check.answers(x, "note(2) = " + (64 + 7 * 8 + 7), "note(3) = " + (64 + 7 * 8 + 4));
        x.deliver(2);
        check.answers(x, "note(2) = " + (3 * 64 + 7 * 8 + 7));
        x.deliver(3);
        check.answers(x, "note(3) = " + (2 * 64 + 7 * 8 + 4));
        x.deliver(1);
        check.answers(x, "note(1) = " + 3 * 64);
    }

    private static void nothingChanges() {
        check.sentence("Nothing changes");
        Walk.compareAskedAndUnasked(check, x -> Walk.arguments().forEach(x::note));
    }
}
