/** All promises at once: long mixed runs of calls, each answer and all that can be seen compared. */
public final class RunsAgainstModel {
    private static final int RUNS = 600;
    private static final int CALLS = 600;

    private static final Check check = new Check();
    private static final int[] verdictsSeen = new int[4];
    private static int startsSeen = 0;
    private static int fullsSeen = 0;
    private static long dice = 0;

    private final EngagementTree x;
    private final LocalModel model;
    private final int n;
    private final int m;
    private final int liveliness;
    private final String where;

    private RunsAgainstModel(int run) {
        dice = run * 7919L + 17;
        n = 1 + roll(9);
        m = roll(3) == 0 ? 8 : 7 + roll(27);
        liveliness = 1 + roll(9);
        x = new EngagementTree(n, m);
        model = new LocalModel(n, m);
        where = "run " + run + " of (" + n + ", " + m + ")";
    }

    public static void main(String[] args) {
        for (int run = 0; run < RUNS; run++) {
            RunsAgainstModel one = new RunsAgainstModel(run);
            for (int call = 0; call < CALLS; call++) {
                one.call(call);
            }
        }
        // A run that never gets anywhere would compare nothing of worth.
        for (int verdict = 0; verdict < 4; verdict++) {
            check.due("runs came to verdict " + verdict, verdictsSeen[verdict] > 100, true);
        }
        check.due("runs started anew", startsSeen > 100, true);
        check.due("runs filled all slots", fullsSeen > 100, true);
        check.end();
    }

    /** Repeatable: the same numbers in every run of this test. */
    private static int roll(int sides) {
        dice = dice * 6364136223846793005L + 1442695040888963407L;
        return (int) ((dice >>> 33) % sides);
    }

    private int anyProcess() {
        return roll(25) == 0 ? roll(13) - 2 : roll(n);
    }

    private int anySlot() {
        return roll(25) == 0 ? roll(38) - 2 : roll(roll(2) == 0 ? 8 : m);
    }

    private void call(int number) {
        int kind = roll(20);
        if (kind < liveliness) {
            int p = anyProcess();
            int q = anyProcess();
            int got = x.send(p, q);
            fullsSeen += got == EngagementTree.FULL ? 1 : 0;
            compare(number, "send(" + p + ", " + q + ")", got, model.send(p, q));
        } else if (kind < 10) {
            int p = anyProcess();
            compare(number, "rest(" + p + ")", x.rest(p), model.rest(p));
        } else if (kind < 15) {
            int s = anySlot();
            compare(number, "deliver(" + s + ")", x.deliver(s), model.deliver(s));
        } else if (kind < 17) {
            compare(number, "passToken()", x.passToken(), model.passToken());
        } else if (kind == 17) {
            int p = anyProcess();
            int amount = roll(4) == 0 ? Integer.MAX_VALUE - roll(9) : roll(99) - 49;
            compare(number, "work(" + p + ", " + amount + ")", x.work(p, amount), model.work(p, amount));
        } else if (kind == 18) {
            int got = x.start();
            startsSeen += got == EngagementTree.OK && number > 100 ? 1 : 0;
            compare(number, "start()", got, model.start());
        } else if (roll(4) == 0) {
            compare(number, "settle()", x.settle(), model.settle());
        }
        verdictsSeen[x.verdict()]++;
    }

    private void compare(int number, String call, int got, int want) {
        String told = where + ", call " + number + ", " + call;
        check.due(told, got, want);
        for (int s = -1; s <= 32; s++) {
            check.due(told + ", then note(" + s + ")", x.note(s), model.note(s));
        }
        for (int p = -1; p <= 8; p++) {
            check.due(told + ", then state(" + p + ")", x.state(p), model.state(p));
            check.due(told + ", then parent(" + p + ")", x.parent(p), model.parent(p));
            check.due(told + ", then deficit(" + p + ")", x.deficit(p), model.deficit(p));
            check.due(told + ", then stained(" + p + ")", x.stained(p), model.stained(p));
            for (int what = -1; what <= 3; what++) {
                check.due(told + ", then tally(" + p + ", " + what + ")", x.tally(p, what), model.tally(p, what));
            }
        }
        check.due(told + ", then token()", x.token(), model.token());
        check.due(told + ", then verdict()", x.verdict(), model.verdict());
        for (int which = -1; which <= 3; which++) {
            check.due(told + ", then result(" + which + ")", x.result(which), model.result(which));
        }
    }
}
