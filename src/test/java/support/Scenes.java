import java.util.LinkedHashMap;
import java.util.Map;

/** Objects brought to a point of a computation at which a test begins. */
final class Scenes {
    private Scenes() {
    }

    static EngagementTree started(int processes, int slots) {
        EngagementTree x = new EngagementTree(processes, slots);
        x.start();
        return x;
    }

    /** Process 0 sent a note to q, in slot 0, which drew q in; both are active. */
    static EngagementTree drawnIn(int processes, int slots, int q) {
        EngagementTree x = started(processes, slots);
        x.send(0, q);
        x.deliver(0);
        return x;
    }

    /** A chain 0, 1, 2, each drawn in by the one before: the notes are in slots 0 and 1, all are active. */
    static EngagementTree chain(int processes, int slots) {
        EngagementTree x = drawnIn(processes, slots, 1);
        x.send(1, 2);
        x.deliver(1);
        return x;
    }

    /** Every slot is taken by a note from process 0 to process q, and none was delivered. */
    static EngagementTree full(int processes, int slots, int q) {
        EngagementTree x = started(processes, slots);
        for (int s = 0; s < slots; s++) {
            x.send(0, q);
        }
        return x;
    }

    static EngagementTree treeAlone(int processes, int slots) {
        EngagementTree x = started(processes, slots);
        x.work(0, 4);
        x.rest(0);
        return x;
    }

    /** Process 1 did 6 of work for a note whose acknowledgement is still on its way, in slot 0. */
    static EngagementTree ringAlone(int processes, int slots) {
        EngagementTree x = drawnIn(processes, slots, 1);
        x.work(0, 3);
        x.work(1, 6);
        x.rest(0);
        x.rest(1);
        passTwoRounds(x, processes);
        return x;
    }

    /** One round to clean all, one to find all clean, and the pass that announces. */
    static void passTwoRounds(EngagementTree x, int processes) {
        for (int i = 0; i < 2 * processes + 1; i++) {
            x.passToken();
        }
    }

    static EngagementTree both(int processes, int slots) {
        EngagementTree x = ringAlone(processes, slots);
        x.deliver(0);
        return x;
    }

    /** Each point of a computation by its name. */
    static Map<String, EngagementTree> all() {
        Map<String, EngagementTree> scenes = new LinkedHashMap<>();
        scenes.put("never started", new EngagementTree(3, 8));
        scenes.put("just started", started(3, 8));
        scenes.put("all slots flying", full(3, 8, 1));
        scenes.put("a chain, all active", chain(3, 8));
        scenes.put("a chain, the middle waiting", middleWaiting());
        scenes.put("a chain, the acknowledgement of its end on its way", endHome());
        scenes.put("the token on its way, stained", tokenAway());
        scenes.put("TREE alone", treeAlone(3, 8));
        scenes.put("RING alone", ringAlone(3, 8));
        scenes.put("both", both(3, 8));
        scenes.put("started anew", startedAnew());
        return scenes;
    }

    private static EngagementTree middleWaiting() {
        EngagementTree x = chain(3, 8);
        x.work(1, 5);
        x.rest(1);
        return x;
    }

    private static EngagementTree endHome() {
        EngagementTree x = middleWaiting();
        x.work(2, -7);
        x.rest(2);
        x.rest(0);
        return x;
    }

    private static EngagementTree tokenAway() {
        EngagementTree x = endHome();
        x.passToken();
        x.passToken();
        return x;
    }

    private static EngagementTree startedAnew() {
        EngagementTree x = both(3, 8);
        x.start();
        return x;
    }
}
