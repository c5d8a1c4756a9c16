import java.util.Map;

/** Promise 7: the token goes round and announces RING only when all is clean and still. */
public final class Promise07PassToken {
    private static final Check check = new Check();

    public static void main(String[] args) {
        beforeStart();
        twoRoundsToAnnounce();
        busyAtAnyHolder();
        stainsGoWithTheToken();
        flyingNoteHoldsItBack();
        activeProcessHoldsItBack();
        stainedProcessHoldsItBack();
        stainedRootHoldsItBack();
        heldAndReplyingDontMatter();
        check.end();
    }

    private static void beforeStart() {
        EngagementTree x = new EngagementTree(3, 8);
        passes(x, EngagementTree.REFUSED);
    }

    private static void twoRoundsToAnnounce() {
        EngagementTree x = new EngagementTree(3, 8);
        x.start();
        passes(x, EngagementTree.BUSY);
        x.rest(0);
        passes(x, EngagementTree.OK, "token() = 4");
        passes(x, EngagementTree.OK, "token() = 2");
        passes(x, EngagementTree.OK, "token() = 0");
        passes(x, EngagementTree.ANNOUNCED, "verdict() = 3");
        passes(x, EngagementTree.REFUSED);
    }

    private static void busyAtAnyHolder() {
        EngagementTree x = new EngagementTree(3, 8);
        x.start();
        x.send(0, 1);
        x.send(0, 2);
        x.rest(0);
        x.deliver(0);
        x.deliver(1);
        passes(x, EngagementTree.OK, "token() = 4");
        passes(x, EngagementTree.BUSY);
        x.rest(2);
        passes(x, EngagementTree.OK, "token() = 3", "stained(2) = 0");
        passes(x, EngagementTree.BUSY);
        x.rest(1);
        passes(x, EngagementTree.OK, "token() = 1", "stained(1) = 0");
    }

    private static void stainsGoWithTheToken() {
        EngagementTree x = new EngagementTree(4, 8);
        x.start();
        x.send(0, 2);
        x.send(0, 0);
        x.deliver(0);
        x.deliver(1);
        x.rest(0);
        x.rest(2);
        passes(x, EngagementTree.OK, "token() = 6", "stained(0) = 0");
        passes(x, EngagementTree.OK, "token() = 4");
        passes(x, EngagementTree.OK, "token() = 3", "stained(2) = 0");
        passes(x, EngagementTree.OK, "token() = 1");
        passes(x, EngagementTree.OK, "token() = 6");
        passes(x, EngagementTree.OK, "token() = 4");
        passes(x, EngagementTree.OK, "token() = 2");
        passes(x, EngagementTree.OK, "token() = 0");
        passes(x, EngagementTree.ANNOUNCED, "verdict() = 2", "result(2) = 2");
        passes(x, EngagementTree.REFUSED);
    }

    private static void flyingNoteHoldsItBack() {
        EngagementTree x = new EngagementTree(2, 8);
        x.start();
        x.send(0, 1);
        x.rest(0);
        for (int round = 0; round < 3; round++) {
            passes(x, EngagementTree.OK, "token() = 2");
            passes(x, EngagementTree.OK, "token() = 0");
        }
    }

    private static void activeProcessHoldsItBack() {
        EngagementTree x = new EngagementTree(3, 8);
        x.start();
        x.send(0, 2);
        x.rest(0);
        x.passToken();
        x.passToken();
        x.deliver(0);
        x.passToken();
        check.due("token()", x.token(), 0);
        passes(x, EngagementTree.OK, "token() = 4");
        passes(x, EngagementTree.BUSY);
    }

    private static void stainedProcessHoldsItBack() {
        EngagementTree x = new EngagementTree(3, 8);
        x.start();
        x.send(0, 2);
        x.rest(0);
        x.passToken();
        x.passToken();
        x.deliver(0);
        x.rest(2);
        x.passToken();
        check.due("token()", x.token(), 0);
        check.due("stained(2)", x.stained(2), true);
        passes(x, EngagementTree.OK, "token() = 4");
    }

    private static void stainedRootHoldsItBack() {
        EngagementTree x = new EngagementTree(3, 8);
        x.start();
        x.send(0, 0);
        x.rest(0);
        x.passToken();
        x.passToken();
        x.deliver(0);
        x.rest(0);
        x.passToken();
        check.due("token()", x.token(), 0);
        passes(x, EngagementTree.OK, "token() = 4", "stained(0) = 0");
        passes(x, EngagementTree.OK, "token() = 2");
        passes(x, EngagementTree.OK, "token() = 0");
        passes(x, EngagementTree.ANNOUNCED, "verdict() = 2", "result(2) = 1");
    }

    private static void heldAndReplyingDontMatter() {
        EngagementTree x = new EngagementTree(3, 8);
        x.start();
        x.send(0, 1);
        x.deliver(0);
        x.send(1, 2);
        x.deliver(1);
        x.rest(0);
        x.rest(1);
        x.rest(2);
        check.due("note(0)", x.note(0), 129);
        check.due("note(1)", x.note(1), 202);
        for (int i = 0; i < 6; i++) {
            check.due("passToken()", x.passToken(), EngagementTree.OK);
        }
        passes(x, EngagementTree.ANNOUNCED, "verdict() = 2", "result(2) = 2");
        passes(x, EngagementTree.REFUSED);
    }

    private static void passes(EngagementTree x, int answer, String... changes) {
        Map<String, Integer> before = Check.look(x);
        check.due("passToken()", x.passToken(), answer);
        check.changes("passToken()", before, x, changes);
    }
}
