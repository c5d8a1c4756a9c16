/** Promise 14, sentence by sentence: token tells where the token is and whether it is stained. */
public final class Promise14Token {
    private static final Check check = new Check();

    public static void main(String[] args) {
        check.section("Promise 14");
        neverStarted();
        placeAndStain();
        afterStartAndAfterRing();
        nothingChanges();
        check.endOfSection();
    }

    private static void neverStarted() {
        check.sentence("token() answers NONE if no computation was ever started");
        for (int n = 2; n <= 8; n++) {
            EngagementTree x = new EngagementTree(n, 8);
            check.answers(x, "token() = NONE", "passToken() = REFUSED", "settle() = 0", "token() = NONE");
        }
    }

    private static void placeAndStain() {
        check.sentence("Otherwise it answers 2 * (the process that has the token), plus 1 if the token is stained");
        for (int n = 2; n <= 8; n++) {
            EngagementTree clean = Scenes.treeAlone(n, 8);
            EngagementTree stained = Scenes.drawnIn(n, 8, n - 1);
            stained.rest(n - 1);
            stained.rest(0);
            clean.passToken();
            stained.passToken();
            check.answers(clean, "token() = " + 2 * (n - 1));
            check.answers(stained, "token() = " + 2 * (n - 1));
            for (int h = n - 2; h >= 0; h--) {
                clean.passToken();
                stained.passToken();
                check.answers(clean, "token() = " + 2 * h);
                check.answers(stained, "token() = " + (2 * h + 1));
            }
            stained.passToken();
            check.answers(stained, "token() = " + 2 * (n - 1));
        }
    }

    private static void afterStartAndAfterRing() {
        check.sentence("Right after a successful start this is 1; from the announcement of RING");
        for (int n = 2; n <= 8; n++) {
            EngagementTree x = new EngagementTree(n, 8);
            for (int run = 0; run < 2; run++) {
                check.answers(x, "start() = OK", "token() = 1", "passToken() = BUSY", "token() = 1");
                x.send(0, 1);
                x.deliver(0);
                x.rest(0);
                x.rest(1);
                Scenes.passTwoRounds(x, n);
                check.answers(x, "verdict() = RING", "token() = 0", "passToken() = REFUSED", "start() = REFUSED",
                    "token() = 0", "settle() = TREE + RING", "token() = 0", "settle() = TREE + RING", "token() = 0");
            }
        }
    }

    private static void nothingChanges() {
        check.sentence("Nothing changes");
        Walk.compareAskedAndUnasked(check, EngagementTree::token);
    }
}
