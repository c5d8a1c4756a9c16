import java.util.Set;
import java.util.TreeSet;

/** "Words and common rules", sentence by sentence: what holds for all calls and at all times. */
public final class CommonRules {
    private static final Check check = new Check();

    public static void main(String[] args) {
        check.section("Words and common rules");
        state();
        deficit();
        engaged();
        homecoming();
        treeRule();
        announcementsStay();
        refusalsChangeNothing();
        firstConditionDecides();
        wraps();
        check.endOfSection();
    }

    private static void state() {
        check.sentence("Each process is active or not, and stained or clean");
        Walk.everyStep(step -> {
            for (int p = 0; p < step.walk().n; p++) {
                boolean active = step.after().answer("state(" + p + ")") == EngagementTree.ACTIVE;
                check.answers(step.x(), "work(" + p + ", 0) = " + (active ? "OK" : "NOT_ACTIVE"));
            }
        });
        stages();
        notesKeepWhatTheyAre();
        check.sentence("Once a computation was started, the token is at one process and is stained or clean");
        Walk.everyStep(step -> {
            int token = step.after().answer("token()");
            boolean never = token == EngagementTree.NONE;
            check.holds("token() = " + token + " is of a process", never || token >= 0 && token < 2 * step.walk().n);
            check.holds("the token stays in being", !never || step.before().answer("token()") == EngagementTree.NONE);
        });
        check.sentence("Each process has three tallies");
        EngagementTree x = Scenes.drawnIn(8, 32, 7);
        check.call(x, "work(7, 3) = OK", "tally(7, 0) = 3");
        check.call(x, "send(7, 7) = 1", "note(1) = 127", "deficit(7) = 1", "tally(7, 2) = 1");
        check.call(x, "deliver(1) = REPLYING", "note(1) = 255", "tally(7, 1) = 2");
        check.sentence("The verdict has two bits, TREE and RING, each either announced or not");
        Set<Integer> verdicts = new TreeSet<>();
        Walk.everyStep(step -> verdicts.add(step.after().answer("verdict()")));
        check.holds("verdicts " + verdicts + " are all four", verdicts.equals(Set.of(0, 1, 2, 3)));
    }

    private static void stages() {
        EngagementTree x = Scenes.started(3, 8);
        check.sentence("FLYING: work on its way to the receiver");
        check.call(x, "send(0, 2) = 0", "note(0) = 66", "deficit(0) = 1", "tally(0, 2) = 1");
        check.sentence("HELD: delivered, kept by the receiver as the note that drew it in");
        check.call(x, "deliver(0) = HELD", "note(0) = 130", "state(2) = ACTIVE", "parent(2) = 0",
            "stained(2) = true", "tally(2, 1) = 1");
        check.sentence("REPLYING: its acknowledgement is on its way back to the sender");
        check.call(x, "rest(2) = OK", "note(0) = 194", "state(2) = NEUTRAL", "parent(2) = NONE");
        check.call(x, "deliver(0) = FREE", "note(0) = 0", "deficit(0) = 0");
    }

    private static void notesKeepWhatTheyAre() {
        check.sentence("A note keeps its slot, sender and receiver in all stages");
        Walk.everyStep(step -> {
            for (int s = 0; s < step.walk().m; s++) {
                int was = step.before().answer("note(" + s + ")");
                int is = step.after().answer("note(" + s + ")");
                if (was != 0 && is != 0) {
                    check.due("sender and receiver in slot " + s, is % 64, was % 64);
                    check.holds("slot " + s + " goes on in the order of the stages", is / 64 >= was / 64);
                } else if (was != 0) {
                    check.holds(step.call() + " may free slot " + s, was / 64 == EngagementTree.REPLYING
                        || step.call().isA("settle") && was / 64 == EngagementTree.HELD);
                }
            }
        });
    }

    private static void deficit() {
        check.sentence("deficit(p) is the number of slots that aren't FREE and whose sender is p");
        Walk.everyStep(step -> {
            int[] counts = new int[8];
            for (int s = 0; s < step.walk().m; s++) {
                int note = step.after().answer("note(" + s + ")");
                counts[note / 8 % 8] += note == 0 ? 0 : 1;
            }
            for (int p = 0; p < step.walk().n; p++) {
                check.due("deficit(" + p + ")", step.after().answer("deficit(" + p + ")"), counts[p]);
            }
        });
        check.sentence("All three stages FLYING, HELD and REPLYING count");
        EngagementTree x = Scenes.started(3, 8);
        x.send(0, 1);
        x.send(0, 1);
        x.send(0, 1);
        x.deliver(0);
        x.deliver(1);
        check.answers(x, "note(0) = 129", "note(1) = 193", "note(2) = 65", "deficit(0) = 3");
    }

    private static void engaged() {
        check.sentence("A process p other than 0 is engaged exactly when some slot is HELD with receiver p");
        Walk.everyStep(step -> {
            int[] held = heldNotes(step);
            for (int p = 1; p < step.walk().n; p++) {
                boolean engaged = step.after().answer("state(" + p + ")") != EngagementTree.NEUTRAL;
                check.due("HELD notes of " + p, held[p], engaged ? 1 : 0);
            }
            check.due("HELD notes of 0", held[0], 0);
        });
        check.sentence("Process 0 is engaged from a successful start until TREE is announced");
        Walk.everyStep(step -> {
            boolean started = step.after().answer("token()") != EngagementTree.NONE;
            boolean engaged = started && (step.after().answer("verdict()") & EngagementTree.TREE) == 0;
            check.holds("0 is engaged or not",
                engaged == (step.after().answer("state(0)") != EngagementTree.NEUTRAL));
        });
        check.sentence("An active process is always engaged");
        Walk.everyStep(step -> {
            int[] held = heldNotes(step);
            held[0] = 1 - (step.after().answer("verdict()") & EngagementTree.TREE);
            for (int p = 0; p < step.walk().n; p++) {
                boolean active = step.after().answer("state(" + p + ")") == EngagementTree.ACTIVE;
                check.holds(p + " is engaged if active", !active || held[p] == 1);
            }
        });
    }

    private static int[] heldNotes(Walk.Step step) {
        int[] held = new int[8];
        for (int s = 0; s < step.walk().m; s++) {
            int note = step.after().answer("note(" + s + ")");
            held[note % 8] += note / 64 == EngagementTree.HELD ? 1 : 0;
        }
        return held;
    }

    private static void homecoming() {
        check.sentence("Homecoming of a process p other than 0: if p is engaged, not active, and deficit(p) is 0");
        EngagementTree byRest = Scenes.drawnIn(3, 8, 1);
        check.call(byRest, "rest(1) = OK", "note(0) = 193", "state(1) = NEUTRAL", "parent(1) = NONE");
        EngagementTree byAcknowledgement = Scenes.chain(3, 8);
        byAcknowledgement.rest(1);
        byAcknowledgement.rest(2);
        check.call(byAcknowledgement, "deliver(1) = FREE", "note(1) = 0", "deficit(1) = 0", "note(0) = 193",
            "state(1) = NEUTRAL", "parent(1) = NONE");

        check.sentence("Otherwise nothing changes");
        EngagementTree stillActive = Scenes.chain(3, 8);
        stillActive.rest(2);
        check.call(stillActive, "deliver(1) = FREE", "note(1) = 0", "deficit(1) = 0");
        EngagementTree inDebt = Scenes.chain(3, 8);
        check.call(inDebt, "rest(1) = OK", "state(1) = WAITING");
        inDebt.send(2, 1);
        inDebt.deliver(2);
        inDebt.send(1, 1);
        inDebt.deliver(3);
        inDebt.rest(1);
        check.call(inDebt, "deliver(3) = FREE", "note(3) = 0", "deficit(1) = 1");

        check.sentence("For process 0 homecoming does nothing");
        EngagementTree root = Scenes.started(3, 8);
        root.send(0, 1);
        root.send(0, 0);
        root.deliver(1);
        check.call(root, "rest(0) = OK", "state(0) = WAITING");
        check.call(root, "deliver(1) = FREE", "note(1) = 0", "deficit(0) = 1");
        root.deliver(0);
        root.send(1, 0);
        root.deliver(1);
        root.rest(1);
        root.deliver(1);
        check.call(root, "deliver(0) = FREE", "note(0) = 0", "deficit(0) = 0");
        check.answers(root, "state(0) = ACTIVE");
    }

    private static void treeRule() {
        check.sentence("If a computation was started, TREE isn't announced yet, no process is active");
        EngagementTree byRest = Scenes.started(3, 8);
        check.call(byRest, "rest(0) = OK", "state(0) = NEUTRAL", "verdict() = TREE", "result(1) = 1");
        EngagementTree byAcknowledgement = Scenes.drawnIn(3, 8, 1);
        byAcknowledgement.rest(1);
        byAcknowledgement.rest(0);
        check.call(byAcknowledgement, "deliver(0) = FREE", "note(0) = 0", "deficit(0) = 0", "state(0) = NEUTRAL",
            "verdict() = TREE", "result(1) = 3");
        EngagementTree afterRing = Scenes.ringAlone(3, 8);
        check.call(afterRing, "deliver(0) = FREE", "note(0) = 0", "deficit(0) = 0", "state(0) = NEUTRAL",
            "verdict() = TREE + RING", "result(0) = 9", "result(1) = 3");

        check.sentence("Otherwise the rule changes nothing");
        check.call(new EngagementTree(3, 8), "settle() = 0");
        EngagementTree active = Scenes.drawnIn(3, 8, 1);
        active.rest(1);
        check.call(active, "deliver(0) = FREE", "note(0) = 0", "deficit(0) = 0");
        EngagementTree otherActive = Scenes.chain(3, 8);
        otherActive.rest(0);
        check.call(otherActive, "rest(1) = OK", "state(1) = WAITING");
        // The last slot too must be FREE.
        EngagementTree lastSlot = Scenes.full(2, 32, 0);
        for (int s = 0; s < 31; s++) {
            lastSlot.deliver(s);
            lastSlot.deliver(s);
        }
        check.call(lastSlot, "rest(0) = OK", "state(0) = WAITING");
    }

    private static void announcementsStay() {
        check.sentence("An announcement stays until the next successful start");
        Walk.everyStep(step -> {
            int was = step.before().answer("verdict()");
            int is = step.after().answer("verdict()");
            if (step.startsAnew()) {
                check.due("verdict() after start()", is, 0);
            } else {
                check.due("bits that stay after " + step.call(), was & is, was);
            }
        });
        EngagementTree tree = Scenes.treeAlone(3, 8);
        check.answers(tree, "start() = REFUSED", "rest(0) = NOT_ACTIVE", "send(0, 1) = NOT_ACTIVE",
            "deliver(0) = REFUSED", "passToken() = OK", "passToken() = OK", "verdict() = TREE");
        EngagementTree ring = Scenes.ringAlone(3, 8);
        check.answers(ring, "start() = REFUSED", "passToken() = REFUSED", "work(0, 1) = NOT_ACTIVE", "verdict() = RING",
            "settle() = TREE + RING", "settle() = TREE + RING", "verdict() = TREE + RING", "start() = OK",
            "verdict() = 0");
    }

    private static void refusalsChangeNothing() {
        check.sentence("A call that answers BAD, NOT_ACTIVE, FULL, REFUSED or BUSY changes nothing");
        Set<String> seen = new TreeSet<>();
        Walk.everyStep(step -> {
            if (step.answer() < 0) {
                String name = step.call().toString().replaceAll("\\(.*", "");
                seen.add(name + " " + step.answer());
                check.due("changes by a refused " + step.call(), step.after().changesSince(step.before()).size(), 0);
            }
        });
        Set<String> due = Set.of("start -4", "work -1", "work -2", "send -1", "send -2", "send -3", "rest -1",
            "rest -2", "deliver -1", "deliver -4", "passToken -4", "passToken -5");
        check.holds("refusals " + seen + " are all that there can be", seen.equals(due));
        // What can't be seen at once would show in what the object does later.
        for (int number = 0; number < 100; number++) {
            refusedOrLeftOut(number);
        }
    }

    private static void refusedOrLeftOut(int number) {
        Walk walk = new Walk(number);
        EngagementTree refusing = new EngagementTree(walk.n, walk.m);
        EngagementTree spared = new EngagementTree(walk.n, walk.m);
        for (int i = 0; i < 400; i++) {
            Call call = walk.next();
            if (call.on(refusing) >= 0) {
                call.on(spared);
            }
        }
        check.due("walk " + number + ", differences through refused calls",
            Look.at(refusing).changesSince(Look.at(spared)).size(), 0);
    }

    private static void firstConditionDecides() {
        check.sentence("Where a promise lists several conditions, they are looked at in the order listed");
        EngagementTree fresh = new EngagementTree(3, 8);
        check.call(fresh, "work(3, 1) = BAD");
        check.call(fresh, "send(0, 3) = BAD");
        check.call(fresh, "send(-1, 0) = BAD");
        check.call(fresh, "rest(-1) = BAD");
        check.call(fresh, "deliver(8) = BAD");
        EngagementTree full = Scenes.full(3, 8, 1);
        check.call(full, "send(0, 3) = BAD");
        check.call(full, "send(1, 3) = BAD");
        check.call(full, "send(3, 0) = BAD");
        check.call(full, "send(1, 0) = NOT_ACTIVE");
        check.call(full, "send(0, 1) = FULL");
        full.rest(0);
        check.call(full, "send(0, 1) = NOT_ACTIVE");
        // An active process is engaged too, and the one with the token may be stained or 0.
        check.answers(Scenes.drawnIn(3, 8, 1), "state(1) = ACTIVE", "state(0) = ACTIVE");
        EngagementTree stained = Scenes.started(3, 8);
        stained.send(0, 0);
        stained.deliver(0);
        check.call(stained, "passToken() = BUSY");
    }

    private static void wraps() {
        check.sentence("All int arithmetic wraps as Java int arithmetic does");
        EngagementTree x = Scenes.drawnIn(3, 8, 2);
        check.call(x, "work(0, 2147483647) = OK", "tally(0, 0) = 2147483647");
        check.call(x, "work(0, 2147483647) = OK", "tally(0, 0) = -2");
        check.call(x, "work(2, -2147483648) = OK", "tally(2, 0) = -2147483648");
        check.call(x, "work(2, -1) = OK", "tally(2, 0) = 2147483647");
        x.work(0, 3);
        x.rest(0);
        x.rest(2);
        check.answers(x, "settle() = TREE + RING", "tally(0, 0) = 1", "result(0) = -2147483648");
    }
}
