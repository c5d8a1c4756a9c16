import java.util.List;
import java.util.function.Consumer;

/** Long mixed runs of calls, wrong ones among them; the same in every run of a test. */
final class Walk {
    private static final int WALKS = 60;
    private static final int CALLS = 250;

    final int n;
    final int m;
    private final int liveliness;
    private long dice;

    Walk(int number) {
        dice = number * 7919L + 17;
        n = 2 + roll(7);
        m = roll(3) == 0 ? 8 : 8 + roll(25);
        liveliness = 1 + roll(9);
    }

    /** One call of a walk: what was seen before and after it. */
    record Step(Call call, Look before, int answer, Look after, EngagementTree x, Walk walk) {
        boolean startsAnew() {
            return call.isA("start") && answer == EngagementTree.OK;
        }
    }

    static void everyStep(Consumer<Step> check) {
        for (int number = 0; number < WALKS; number++) {
            Walk walk = new Walk(number);
            EngagementTree x = new EngagementTree(walk.n, walk.m);
            Look before = Look.at(x);
            for (int i = 0; i < CALLS; i++) {
                Call call = walk.next();
                int answer = call.on(x);
                Look after = Look.at(x);
                check.accept(new Step(call, before, answer, after, x, walk));
                before = after;
            }
        }
    }

    /** Of two objects that get the same calls, one is asked after each: that must not make a difference. */
    static void compareAskedAndUnasked(Check check, Consumer<EngagementTree> ask) {
        for (int number = 0; number < WALKS; number++) {
            Walk walk = new Walk(number);
            EngagementTree asked = new EngagementTree(walk.n, walk.m);
            EngagementTree unasked = new EngagementTree(walk.n, walk.m);
            for (int i = 0; i < CALLS; i++) {
                Call call = walk.next();
                ask.accept(asked);
                check.due("walk " + number + ", " + call + " after being asked", call.on(asked), call.on(unasked));
            }
            check.due("walk " + number + ", answers changed by being asked",
                Look.at(asked).changesSince(Look.at(unasked)).size(), 0);
        }
    }

    /** Arguments for an ask: those that may fit, one beyond each end, and the ends of int. */
    static List<Integer> arguments() {
        List<Integer> all = new java.util.ArrayList<>(List.of(Integer.MIN_VALUE, Integer.MAX_VALUE));
        for (int i = -1; i <= 33; i++) {
            all.add(i);
        }
        return all;
    }

    Call next() {
        int kind = roll(20);
        if (kind < liveliness) {
            return Call.of("send(" + anyProcess() + ", " + anyProcess() + ")");
        }
        if (kind < 10) {
            return Call.of("rest(" + anyProcess() + ")");
        }
        if (kind < 15) {
            return Call.of("deliver(" + anySlot() + ")");
        }
        if (kind < 17) {
            return Call.of("passToken()");
        }
        if (kind == 17) {
            int amount = roll(4) == 0 ? Integer.MAX_VALUE - roll(9) : roll(99) - 49;
            return Call.of("work(" + anyProcess() + ", " + amount + ")");
        }
        return Call.of(kind == 18 || roll(4) > 0 ? "start()" : "settle()");
    }

    private int anyProcess() {
        return roll(25) == 0 ? roll(13) - 2 : roll(n);
    }

    private int anySlot() {
        return roll(25) == 0 ? roll(38) - 2 : roll(roll(2) == 0 ? 8 : m);
    }

    private int roll(int sides) {
        dice = dice * 6364136223846793005L + 1442695040888963407L;
        return (int) ((dice >>> 33) % sides);
    }
}
