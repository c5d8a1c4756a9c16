/** Promise 11, sentence by sentence: parent answers who sent the held note. */
public final class Promise11Parent {
    private static final Check check = new Check();

    public static void main(String[] args) {
        check.section("Promise 11");
        senderOfTheHeldNote();
        none();
        nothingChanges();
        check.endOfSection();
    }

    private static void senderOfTheHeldNote() {
        check.sentence("parent(p) answers the sender of the HELD note whose receiver is p");
        EngagementTree x = Scenes.drawnIn(8, 8, 7);
        check.answers(x, "parent(7) = 0");
        x.send(7, 1);
        x.send(0, 1);
        x.deliver(1);
        check.answers(x, "parent(1) = 7");
        x.deliver(2);
        check.answers(x, "parent(1) = 7");
        x.send(1, 2);
        x.deliver(3);
        check.answers(x, "parent(2) = 1");
        x.rest(1);
        check.answers(x, "parent(1) = 7", "state(1) = WAITING");
        // Once home, the next note may come from another.
        x.rest(2);
        x.deliver(3);
        check.answers(x, "parent(2) = NONE", "parent(1) = NONE");
        x.send(0, 1);
        x.deliver(3);
        check.answers(x, "parent(1) = 0");
        Walk.everyStep(step -> {
            for (int s = 0; s < step.walk().m; s++) {
                int note = step.after().answer("note(" + s + ")");
                if (note / 64 == EngagementTree.HELD) {
                    String parent = "parent(" + note % 8 + ")";
                    check.due(parent, step.after().answer(parent), note / 8 % 8);
                }
            }
        });
    }

    private static void none() {
        check.sentence("It answers NONE if there is none (so always for process 0)");
        check.inEveryScene(x -> {
            for (int p : new int[] {0, -1, 3, 7, 8, Integer.MIN_VALUE, Integer.MAX_VALUE}) {
                check.answers(x, "parent(" + p + ") = NONE");
            }
        });
        EngagementTree x = Scenes.started(3, 8);
        x.send(0, 1);
        x.send(0, 0);
        check.answers(x, "parent(1) = NONE");
        x.deliver(1);
        check.answers(x, "parent(0) = NONE", "note(1) = 192");
        x.deliver(0);
        x.rest(1);
        check.answers(x, "parent(1) = NONE", "note(0) = 193");
        Walk.everyStep(step -> check.due("parent(0)", step.after().answer("parent(0)"), EngagementTree.NONE));
    }

    private static void nothingChanges() {
        check.sentence("Nothing changes");
        Walk.compareAskedAndUnasked(check, x -> Walk.arguments().forEach(x::parent));
    }
}
