import java.util.Map;

/** Promise 5: rest makes a process idle, sends its last acknowledgement and may announce TREE. */
public final class Promise05Rest {
    private static final Check check = new Check();

    public static void main(String[] args) {
        wrongOnes();
        rootAlone();
        rootWithNotesOut();
        rootWhileAnotherIsActive();
        leafGoesHome();
        waitsForItsNotes();
        rootAfterAllIsBack();
        check.end();
    }

    private static void wrongOnes() {
        EngagementTree x = new EngagementTree(3, 8);
        nothing(x, 0, EngagementTree.NOT_ACTIVE);
        outside(x);
        x.start();
        outside(x);
        nothing(x, 1, EngagementTree.NOT_ACTIVE);
        nothing(x, 2, EngagementTree.NOT_ACTIVE);
    }

    private static void rootAlone() {
        EngagementTree x = new EngagementTree(3, 8);
        x.start();
        x.work(0, 42);
        rests(x, 0, "state(0) = 0", "verdict() = 1", "result(0) = 42", "result(1) = 1");
        nothing(x, 0, EngagementTree.NOT_ACTIVE);
    }

    private static void rootWithNotesOut() {
        EngagementTree x = new EngagementTree(3, 8);
        x.start();
        x.send(0, 1);
        rests(x, 0, "state(0) = 1");
        nothing(x, 0, EngagementTree.NOT_ACTIVE);
    }

    private static void rootWhileAnotherIsActive() {
        EngagementTree x = new EngagementTree(3, 8);
        x.start();
        x.send(0, 1);
        x.deliver(0);
        rests(x, 0, "state(0) = 1");
    }

    private static void leafGoesHome() {
        EngagementTree x = new EngagementTree(3, 8);
        x.start();
        x.send(0, 2);
        x.deliver(0);
        rests(x, 2, "state(2) = 0", "parent(2) = -1", "note(0) = 194");
        nothing(x, 2, EngagementTree.NOT_ACTIVE);
        rests(x, 0, "state(0) = 1");
    }

    private static void waitsForItsNotes() {
        EngagementTree x = new EngagementTree(3, 8);
        x.start();
        x.send(0, 1);
        x.deliver(0);
        x.send(1, 2);
        x.send(1, 1);
        rests(x, 1, "state(1) = 1");
        check.due("note(0)", x.note(0), 129);
        x.deliver(2);
        rests(x, 1, "state(1) = 1");
        x.deliver(2);
        x.deliver(1);
        rests(x, 2, "state(2) = 0", "parent(2) = -1", "note(1) = 202");
    }

    private static void rootAfterAllIsBack() {
        EngagementTree x = new EngagementTree(3, 8);
        x.start();
        x.send(0, 1);
        x.deliver(0);
        x.work(1, 8);
        x.rest(1);
        x.deliver(0);
        check.due("verdict()", x.verdict(), 0);
        rests(x, 0, "state(0) = 0", "verdict() = 1", "result(0) = 8", "result(1) = 3");
    }

    private static void outside(EngagementTree x) {
        for (int p : new int[] {-1, 3, 8, Integer.MIN_VALUE, Integer.MAX_VALUE}) {
            nothing(x, p, EngagementTree.BAD);
        }
    }

    private static void rests(EngagementTree x, int p, String... changes) {
        Map<String, Integer> before = Check.look(x);
        check.due("rest(" + p + ")", x.rest(p), EngagementTree.OK);
        check.changes("rest(" + p + ")", before, x, changes);
    }

    private static void nothing(EngagementTree x, int p, int answer) {
        Map<String, Integer> before = Check.look(x);
        check.due("rest(" + p + ")", x.rest(p), answer);
        check.changes("rest(" + p + ")", before, x);
    }
}
