/** Promise 16, sentence by sentence: the verdict has a bit for each detector, and either may be first. */
public final class Promise16Verdict {
    private static final Check check = new Check();

    public static void main(String[] args) {
        check.section("Promise 16");
        bits();
        eitherFirst();
        nothingChanges();
        check.endOfSection();
    }

    private static void bits() {
        check.sentence("verdict() answers TREE if that is announced, plus RING if that is announced");
        check.answers(new EngagementTree(2, 8), "verdict() = 0");
        check.answers(Scenes.started(2, 8), "verdict() = 0");
        check.answers(Scenes.treeAlone(2, 8), "verdict() = 1");
        check.answers(Scenes.ringAlone(2, 8), "verdict() = 2");
        EngagementTree x = Scenes.both(2, 8);
        check.answers(x, "verdict() = 3", "settle() = 3", "deliver(0) = REFUSED", "rest(0) = NOT_ACTIVE",
            "verdict() = 3", "start() = OK", "verdict() = 0");
    }

    private static void eitherFirst() {
        check.sentence("Either bit can be announced before the other");
        EngagementTree tree = Scenes.started(2, 8);
        check.answers(tree, "rest(0) = OK", "verdict() = TREE", "passToken() = OK", "verdict() = TREE",
            "passToken() = OK", "verdict() = TREE", "passToken() = ANNOUNCED", "verdict() = TREE + RING");
        EngagementTree ring = Scenes.drawnIn(2, 8, 1);
        ring.rest(0);
        ring.rest(1);
        for (int i = 0; i < 4; i++) {
            check.answers(ring, "verdict() = 0", "passToken() = OK");
        }
        check.answers(ring, "verdict() = 0", "passToken() = ANNOUNCED", "verdict() = RING", "start() = REFUSED",
            "verdict() = RING", "deliver(0) = FREE", "verdict() = TREE + RING");
    }

    private static void nothingChanges() {
        check.sentence("Nothing changes");
        Walk.compareAskedAndUnasked(check, EngagementTree::verdict);
    }
}
