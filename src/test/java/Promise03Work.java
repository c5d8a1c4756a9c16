/** Promise 3, sentence by sentence: work adds to one tally, for an active process alone. */
public final class Promise03Work {
    private static final Check check = new Check();

    public static void main(String[] args) {
        check.section("Promise 3");
        doesWork();
        wrongProcess();
        notActive();
        addsWrapping();
        answersOk();
        anyAmount();
        nothingElseChanges();
        check.endOfSection();
    }

    private static void doesWork() {
        check.sentence("work(p, amount): process p does an amount of work");
        EngagementTree x = Scenes.chain(3, 8);
        check.call(x, "work(2, 9) = OK", "tally(2, 0) = 9");
        check.call(x, "work(0, 2) = OK", "tally(0, 0) = 2");
        check.call(x, "work(2, 1) = OK", "tally(2, 0) = 10");
        x.rest(0);
        x.rest(1);
        x.rest(2);
        x.settle();
        check.answers(x, "result(0) = 12");
    }

    private static void wrongProcess() {
        check.sentence("p outside 0 .. N-1: BAD");
        check.inEveryScene(x -> {
            for (int p : new int[] {-1, 3, 7, 8, Integer.MIN_VALUE, Integer.MAX_VALUE}) {
                check.call(x, "work(" + p + ", 5) = BAD");
            }
        });
        check.call(Scenes.started(8, 8), "work(8, 5) = BAD");
    }

    private static void notActive() {
        check.sentence("p not active (so always before the first start): NOT_ACTIVE");
        EngagementTree fresh = new EngagementTree(3, 8);
        for (int p = 0; p < 3; p++) {
            check.call(fresh, "work(" + p + ", 5) = NOT_ACTIVE");
        }
        check.inEveryScene(x -> {
            for (int p = 0; p < 3; p++) {
                if (x.state(p) != EngagementTree.ACTIVE) {
                    check.call(x, "work(" + p + ", 5) = NOT_ACTIVE");
                }
            }
        });
        EngagementTree x = Scenes.started(3, 8);
        x.send(0, 1);
        check.call(x, "work(1, 5) = NOT_ACTIVE");
        x.deliver(0);
        check.call(x, "work(1, 5) = OK", "tally(1, 0) = 5");
    }

    private static void addsWrapping() {
        check.sentence("Otherwise amount is added to tally(p, 0), wrapping");
        EngagementTree x = Scenes.drawnIn(3, 8, 2);
        for (int p : new int[] {0, 2}) {
            String tally = "tally(" + p + ", 0) = ";
            check.call(x, "work(" + p + ", 2147483647) = OK", tally + "2147483647");
            check.call(x, "work(" + p + ", 1) = OK", tally + "-2147483648");
            check.call(x, "work(" + p + ", -1) = OK", tally + "2147483647");
            check.call(x, "work(" + p + ", 2147483647) = OK", tally + "-2");
            check.call(x, "work(" + p + ", -2147483648) = OK", tally + "2147483646");
        }
    }

    private static void answersOk() {
        check.sentence("The answer is OK");
        EngagementTree x = Scenes.chain(3, 8);
        for (int p = 0; p < 3; p++) {
            for (int amount : new int[] {0, 1, -1, -2, -5, Integer.MIN_VALUE, Integer.MAX_VALUE}) {
                check.answers(x, "work(" + p + ", " + amount + ") = OK");
            }
        }
    }

    private static void anyAmount() {
        check.sentence("The amount is any int, zero and negative ones included");
        EngagementTree x = Scenes.started(3, 8);
        check.call(x, "work(0, 0) = OK");
        check.call(x, "work(0, 5) = OK", "tally(0, 0) = 5");
        check.call(x, "work(0, 0) = OK");
        check.call(x, "work(0, -12) = OK", "tally(0, 0) = -7");
        check.call(x, "work(0, -2147483648) = OK", "tally(0, 0) = 2147483641");
        check.call(x, "work(0, 2147483647) = OK", "tally(0, 0) = -8");
    }

    private static void nothingElseChanges() {
        check.sentence("Nothing but tally(p, 0) changes");
        check.inEveryScene(x -> {
            for (int p = 0; p < 3; p++) {
                if (x.state(p) == EngagementTree.ACTIVE) {
                    int sum = x.tally(p, 0) + 11;
                    check.call(x, "work(" + p + ", 11) = OK", "tally(" + p + ", 0) = " + sum);
                }
            }
        });
    }
}
