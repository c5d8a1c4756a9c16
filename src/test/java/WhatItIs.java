import java.util.ArrayList;
import java.util.List;
import java.util.Set;
import java.util.TreeSet;
import java.util.regex.Matcher;
import java.util.regex.Pattern;

/** "What it is", sentence by sentence: the system as a whole, and the public constants. */
public final class WhatItIs {
    private static final Check check = new Check();

    public static void main(String[] args) throws ReflectiveOperationException {
        check.section("What it is");
        spreadsByNotes();
        callerPicksTheOrder();
        activeProcesses();
        twoDetectors();
        acknowledgedOnceAndLast();
        oneToken();
        rootHearsByMessagesAlone();
        announcements();
        constants();
        check.endOfSection();
    }

    private static void spreadsByNotes() {
        check.sentence("Processes 0 .. N-1 carry out a computation that spreads from process 0 by work notes");
        Walk.everyStep(step -> {
            for (int p = 0; p < step.walk().n; p++) {
                if (!active(step.before(), p) && active(step.after(), p)) {
                    boolean root = p == 0 && step.startsAnew();
                    check.holds(step.call() + " may awake " + p, root || bringsWorkTo(step, p));
                }
            }
        });
    }

    private static boolean active(Look look, int p) {
        return look.answer("state(" + p + ")") == EngagementTree.ACTIVE;
    }

    private static boolean bringsWorkTo(Walk.Step step, int q) {
        if (!step.call().isA("deliver") || step.answer() < 0) {
            return false;
        }
        int note = step.before().answer("note(" + step.call().argument(0) + ")");
        return note / 64 == EngagementTree.FLYING && note % 8 == q;
    }

    /** Four notes in all of their 24 orders: the first to come draws its receiver in. */
    private static void callerPicksTheOrder() {
        for (int order = 0; order < 24; order++) {
            EngagementTree x = Scenes.started(3, 8);
            x.send(0, 1);
            x.send(0, 2);
            x.send(0, 1);
            x.send(0, 2);
            boolean[] reached = new boolean[3];
            for (int s : nthOrder(order)) {
                int q = 1 + s % 2;
                check.answers(x, "deliver(" + s + ") = " + (reached[q] ? "REPLYING" : "HELD"));
                reached[q] = true;
            }
        }
    }

    private static int[] nthOrder(int number) {
        List<Integer> left = new ArrayList<>(List.of(0, 1, 2, 3));
        int[] order = new int[4];
        int rest = number;
        for (int i = 0; i < 4; i++) {
            order[i] = left.remove(rest % left.size());
            rest /= left.size() + 1;
        }
        return order;
    }

    private static void activeProcesses() {
        check.sentence("An active process does work, sends work notes and becomes idle");
        EngagementTree x = Scenes.started(3, 8);
        check.answers(x, "work(0, 2) = OK", "send(0, 2) = 0", "rest(0) = OK", "state(0) = WAITING",
            "work(2, 2) = NOT_ACTIVE", "send(2, 1) = NOT_ACTIVE", "rest(2) = NOT_ACTIVE");
        check.answers(x, "deliver(0) = HELD", "state(2) = ACTIVE", "work(2, 2) = OK", "send(2, 1) = 1",
            "rest(2) = OK", "state(2) = WAITING");
        check.answers(x, "deliver(1) = HELD", "state(1) = ACTIVE", "rest(1) = OK", "state(1) = NEUTRAL");
    }

    private static void twoDetectors() {
        check.sentence("Two detectors watch the same run");
        EngagementTree x = Scenes.drawnIn(3, 8, 2);
        x.work(2, 5);
        x.rest(0);
        x.rest(2);
        check.answers(x, "verdict() = 0", "settle() = TREE + RING", "result(0) = 5", "result(1) = 5", "result(2) = 1");
    }

    private static void acknowledgedOnceAndLast() {
        check.sentence("The TREE detector uses acknowledgements: each work note is acknowledged once");
        Walk.everyStep(step -> {
            for (int s = 0; s < step.walk().m; s++) {
                int was = step.before().answer("note(" + s + ")");
                int is = step.after().answer("note(" + s + ")");
                if (was / 64 == EngagementTree.HELD && is / 64 == EngagementTree.REPLYING) {
                    int p = is % 8;
                    check.due("notes of " + p + " without acknowledgement", step.after().answer("deficit(" + p + ")"), 0);
                    check.holds(p + " rests", !active(step.after(), p));
                }
                boolean acknowledged = was / 64 == EngagementTree.REPLYING && is == 0;
                check.holds("slot " + s + " goes its way once", acknowledged || is / 64 >= was / 64
                    || step.call().isA("settle") && was / 64 == EngagementTree.HELD);
            }
        });
        // As many acknowledgements come back as notes were sent.
        EngagementTree x = Scenes.full(3, 32, 1);
        int back = 0;
        for (int s = 31; s >= 0; s--) {
            x.deliver(s);
        }
        check.answers(x, "note(31) = 129");
        for (int s = 0; s < 31; s++) {
            back += x.deliver(s) == EngagementTree.FREE ? 1 : 0;
        }
        check.answers(x, "deliver(31) = REFUSED", "rest(1) = OK", "deliver(31) = FREE", "deliver(31) = REFUSED");
        check.due("acknowledgements before the last", back, 31);
    }

    private static void oneToken() {
        check.sentence("The RING detector uses one token, passed from process to process");
        for (int n = 2; n <= 8; n++) {
            EngagementTree x = Scenes.treeAlone(n, 8);
            Set<Integer> places = new TreeSet<>();
            for (int i = 0; i < n; i++) {
                places.add(x.token() / 2);
                check.answers(x, "passToken() = OK");
            }
            check.due("processes that had the token", places.size(), n);
            check.answers(x, "token() = 0", "passToken() = ANNOUNCED");
        }
    }

    // The model's process 0 knows nothing but what acknowledgements and the token bring it.
    private static void rootHearsByMessagesAlone() {
        check.sentence("In this system process 0 hears of the others only by acknowledgements");
        for (int number = 0; number < 100; number++) {
            Walk walk = new Walk(number);
            EngagementTree x = new EngagementTree(walk.n, walk.m);
            LocalModel model = new LocalModel(walk.n, walk.m);
            for (int i = 0; i < 300; i++) {
                Call call = walk.next();
                call.on(x);
                call.on(model);
                check.due("walk " + number + ", verdict()", x.verdict(), model.verdict());
                for (int which = 0; which < 3; which++) {
                    check.due("walk " + number + ", result(" + which + ")", x.result(which), model.result(which));
                }
            }
        }
    }

    private static void announcements() {
        check.sentence("The rules below say exactly what it announces, and when");
        Walk.everyStep(step -> {
            int news = step.after().answer("verdict()") & ~step.before().answer("verdict()");
            boolean acknowledgement = step.call().isA("deliver") && step.answer() == EngagementTree.FREE;
            if ((news & EngagementTree.TREE) != 0) {
                check.holds(step.call() + " may announce TREE",
                    step.call().isA("rest") || acknowledgement || step.call().isA("settle"));
            }
            if ((news & EngagementTree.RING) != 0) {
                check.holds(step.call() + " may announce RING", step.call().isA("settle")
                    || step.call().isA("passToken") && step.answer() == EngagementTree.ANNOUNCED);
            }
            if (step.after().answer("verdict()") != 0) {
                nothingIsLeftToDo(step);
            }
        });
    }

    private static void nothingIsLeftToDo(Walk.Step step) {
        for (int p = 0; p < step.walk().n; p++) {
            check.holds(p + " rests once something is announced", !active(step.after(), p));
        }
        for (int s = 0; s < step.walk().m; s++) {
            check.holds("no work is on its way in slot " + s,
                step.after().answer("note(" + s + ")") / 64 != EngagementTree.FLYING);
        }
    }

    private static void constants() throws ReflectiveOperationException {
        Pattern constant = Pattern.compile("([A-Z_]+) = (-?\\d+)");
        int found = 0;
        for (String sentence : Sentences.of("What it is")) {
            Matcher one = constant.matcher(sentence);
            while (one.find()) {
                check.sentence(sentence);
                int value = EngagementTree.class.getField(one.group(1)).getInt(null);
                check.due(one.group(1), value, Integer.parseInt(one.group(2)));
                found++;
            }
        }
        check.due("public constants", found, EngagementTree.class.getFields().length);
    }
}
