import java.util.Map;

/** All promises at once: long mixed runs of calls, each answer and all that can be seen compared. */
public final class RunsAgainstModel {
    private static final int RUNS = 600;
    private static final int CALLS = 600;

    private static final Check check = new Check();
    private static final int[] verdictsSeen = new int[4];
    private static int startsSeen = 0;
    private static int fullsSeen = 0;

    public static void main(String[] args) {
        for (int run = 0; run < RUNS; run++) {
            compare(run);
        }
        // A run that never gets anywhere would compare nothing of worth.
        for (int verdict = 0; verdict < 4; verdict++) {
            check.holds("runs came to verdict " + verdict, verdictsSeen[verdict] > 100);
        }
        check.holds("runs started anew", startsSeen > RUNS + 100);
        check.holds("runs filled all slots", fullsSeen > 100);
        check.end();
    }

    private static void compare(int run) {
        Walk walk = new Walk(run);
        EngagementTree x = new EngagementTree(walk.n, walk.m);
        LocalModel model = new LocalModel(walk.n, walk.m);
        for (int i = 0; i < CALLS; i++) {
            Call call = walk.next();
            int answer = call.on(x);
            String told = "run " + run + " of (" + walk.n + ", " + walk.m + "), call " + i + ", " + call;
            check.due(told, answer, call.on(model));
            Map<String, Integer> differences = Look.at(x).changesSince(Look.at(model));
            check.due(told + ", then " + differences + " in all", differences.size(), 0);
            verdictsSeen[x.verdict()]++;
            startsSeen += call.isA("start") && answer == EngagementTree.OK ? 1 : 0;
            fullsSeen += call.isA("send") && answer == EngagementTree.FULL ? 1 : 0;
        }
    }
}
