import java.util.Map;

/** Promise 9: note tells stage, sender and receiver of a slot. */
public final class Promise09Note {
    private static final Check check = new Check();

    public static void main(String[] args) {
        EngagementTree x = new EngagementTree(8, 10);
        wrongSlots(x);
        check.due("note(0)", x.note(0), 0);
        x.start();
        x.send(0, 7);
        x.send(0, 0);
        check.due("note(0)", x.note(0), 64 + 7);
        check.due("note(1)", x.note(1), 64);
        x.deliver(0);
        check.due("note(0)", x.note(0), 2 * 64 + 7);
        x.send(7, 7);
        x.send(7, 4);
        check.due("note(2)", x.note(2), 64 + 7 * 8 + 7);
        check.due("note(3)", x.note(3), 64 + 7 * 8 + 4);
        x.deliver(2);
        check.due("note(2)", x.note(2), 3 * 64 + 7 * 8 + 7);
        x.deliver(2);
        check.due("note(2)", x.note(2), 0);
        for (int s = 4; s < 10; s++) {
            check.due("note(" + s + ")", x.note(s), 0);
        }
        wrongSlots(x);
        askingChangesNothing(x);
        check.end();
    }

    private static void wrongSlots(EngagementTree x) {
        for (int s : new int[] {-1, 10, 31, 32, Integer.MIN_VALUE, Integer.MAX_VALUE}) {
            check.due("note(" + s + ")", x.note(s), EngagementTree.BAD);
        }
    }

    private static void askingChangesNothing(EngagementTree x) {
        Map<String, Integer> before = Check.look(x);
        for (int s = -2; s < 34; s++) {
            x.note(s);
        }
        check.changes("note", before, x);
    }
}
