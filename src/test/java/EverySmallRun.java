import java.util.ArrayDeque;
import java.util.ArrayList;
import java.util.Deque;
import java.util.HashSet;
import java.util.List;
import java.util.Map;
import java.util.Set;

/**
 * All that can happen in small systems: every situation that two or three processes can come to
 * with a few notes at a time, and in it each call that may change something, with arguments in
 * range and one beyond. A situation is all that can be seen but for the tallies and results, which
 * would make it endless; these are compared on one way to each situation.
 */
public final class EverySmallRun {
    private static final int SLOTS = 8;
    private static final Check check = new Check();

    private final int processes;
    private final int mostNotes;
    private final List<Call> calls;
    private final Set<String> known = new HashSet<>();
    private final Deque<List<Call>> ways = new ArrayDeque<>();

    private EverySmallRun(int processes, int mostNotes) {
        this.processes = processes;
        this.mostNotes = mostNotes;
        calls = calls();
    }

    public static void main(String[] args) {
        new EverySmallRun(2, 3).goEveryWay();
        new EverySmallRun(3, 2).goEveryWay();
        check.end();
    }

    private List<Call> calls() {
        List<Call> all = new ArrayList<>(List.of(Call.of("start()"), Call.of("passToken()"), Call.of("settle()"),
            Call.of("deliver(-1)"), Call.of("deliver(" + SLOTS + ")")));
        for (int s = 0; s <= mostNotes; s++) {
            all.add(Call.of("deliver(" + s + ")"));
        }
        for (int p = -1; p <= processes; p++) {
            all.add(Call.of("rest(" + p + ")"));
            all.add(Call.of("work(" + p + ", " + (5 * p - 4) + ")"));
            for (int q = -1; q <= processes; q++) {
                all.add(Call.of("send(" + p + ", " + q + ")"));
            }
        }
        return all;
    }

    private void goEveryWay() {
        ways.add(List.of());
        known.add(situation(new EngagementTree(processes, SLOTS)));
        while (!ways.isEmpty()) {
            goOnFrom(ways.remove());
        }
        System.out.println(processes + " processes, " + mostNotes + " notes: " + known.size() + " situations");
    }

    private void goOnFrom(List<Call> way) {
        Pair pair = new Pair(processes, way);
        boolean mayNotSend = pair.notes() == mostNotes;
        for (Call call : calls) {
            if (mayNotSend && call.isA("send")) {
                continue;
            }
            int answer = pair.make(call);
            // A refused call is compared too, but the situation goes on as it was.
            if (answer >= 0) {
                remember(way, call, pair.x);
                pair = new Pair(processes, way);
            }
        }
        pair.comesToItsEnd();
    }

    private void remember(List<Call> way, Call call, EngagementTree x) {
        if (known.add(situation(x))) {
            List<Call> longer = new ArrayList<>(way);
            longer.add(call);
            ways.add(longer);
        }
    }

    private static String situation(EngagementTree x) {
        StringBuilder seen = new StringBuilder();
        for (int s = 0; s < SLOTS; s++) {
            seen.append(x.note(s)).append(' ');
        }
        for (int p = 0; p < 3; p++) {
            seen.append(x.state(p)).append(x.stained(p) ? "+" : "-");
        }
        return seen.append(x.token()).append(' ').append(x.verdict()).toString();
    }

    /** The class and the model after the same calls. */
    private static final class Pair {
        private final List<Call> way;
        private final int processes;
        private final EngagementTree x;
        private final LocalModel model;

        Pair(int processes, List<Call> way) {
            this.way = way;
            this.processes = processes;
            x = new EngagementTree(processes, SLOTS);
            model = new LocalModel(processes, SLOTS);
            for (Call call : way) {
                call.on(x);
                call.on(model);
            }
        }

        int notes() {
            int count = 0;
            for (int s = 0; s < SLOTS; s++) {
                count += x.note(s) == 0 ? 0 : 1;
            }
            return count;
        }

        int make(Call call) {
            int answer = call.on(x);
            check.due(way + ", " + call, answer, call.on(model));
            Map<String, Integer> differences = Look.at(x).changesSince(Look.at(model));
            check.due(way + ", " + call + ", then " + differences + " in all", differences.size(), 0);
            return answer;
        }

        /** Once all work is delivered and everyone rests, settle alone brings both announcements. */
        void comesToItsEnd() {
            if (x.token() == EngagementTree.NONE) {
                return;
            }
            for (int s = 0; s < SLOTS; s++) {
                if (x.note(s) / 64 == EngagementTree.FLYING) {
                    x.deliver(s);
                }
            }
            for (int p = 0; p < processes; p++) {
                x.rest(p);
            }
            check.due(way + ", all delivered and at rest, settle()", x.settle(), 3);
        }
    }
}
