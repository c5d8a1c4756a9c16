import java.util.ArrayList;
import java.util.LinkedHashMap;
import java.util.List;
import java.util.Map;
import java.util.concurrent.TimeUnit;
import java.util.function.Consumer;

/** Compares answers with those due, and keeps account of the document's sentences that were checked. */
final class Check {
    private static final int MOST_TOLD = 50;
    private static final int LONGEST_MINUTES = 20;

    private final Map<String, Integer> checksOfSentence = new LinkedHashMap<>();
    private String section = "";
    private String sentence = "";
    private String scene = "";
    private int asked = 0;
    private int wrong = 0;

    Check() {
        Thread watch = new Thread(Check::giveUp);
        watch.setDaemon(true);
        watch.start();
    }

    // A call that never ends would otherwise stop all tests instead of failing one.
    private static void giveUp() {
        try {
            TimeUnit.MINUTES.sleep(LONGEST_MINUTES);
        } catch (InterruptedException ended) {
            return;
        }
        System.out.println("no end after " + LONGEST_MINUTES + " minutes");
        Runtime.getRuntime().halt(1);
    }

    /** The sentences of this section are looked for until another one is turned to. */
    void section(String title) {
        section = title;
        checksOfSentence.clear();
        for (String one : Sentences.of(title)) {
            checksOfSentence.put(one, 0);
        }
        if (checksOfSentence.isEmpty()) {
            tell("the document has no section " + title);
        }
    }

    /** What follows checks the one sentence of the section that begins so. */
    void sentence(String beginning) {
        List<String> fitting = new ArrayList<>();
        for (String one : checksOfSentence.keySet()) {
            if (one.startsWith(beginning)) {
                fitting.add(one);
            }
        }
        sentence = beginning;
        if (fitting.size() != 1) {
            tell(fitting.size() + " sentences begin so");
        } else {
            sentence = fitting.get(0);
        }
    }

    void due(String told, int got, int want) {
        count();
        if (got != want) {
            tell(told + " answered " + got + ", due is " + want);
        }
    }

    void holds(String told, boolean holds) {
        count();
        if (!holds) {
            tell("this doesn't hold: " + told);
        }
    }

    /** Each row is a question with its answer: "state(0) = ACTIVE". */
    void answers(EngagementTree x, String... rows) {
        for (String row : rows) {
            String[] sides = row.split(" = ");
            due(sides[0], Call.of(sides[0]).on(x), Answer.of(sides[1]));
        }
    }

    /**
     * Makes the call of the row. The changes by it must be exactly those listed, each a question
     * with its new answer: so one too many is found as well as one that is missing.
     */
    void call(EngagementTree x, String row, String... listed) {
        String[] sides = row.split(" = ");
        Look before = Look.at(x);
        due(sides[0], Call.of(sides[0]).on(x), Answer.of(sides[1]));
        Map<String, Integer> changes = Look.at(x).changesSince(before);
        for (String one : listed) {
            String[] change = one.split(" = ");
            Integer now = changes.remove(change[0]);
            if (now == null || now != Answer.of(change[1])) {
                tell("after " + sides[0] + ": due is " + one + ", it is " + Call.of(change[0]).on(x));
            }
        }
        for (Map.Entry<String, Integer> one : changes.entrySet()) {
            tell("after " + sides[0] + ": no change was due to " + one.getKey() + ", it was "
                + before.answer(one.getKey()) + " and is " + one.getValue());
        }
    }

    /** Does the same at objects at every point of a computation, all of 3 processes and 8 slots. */
    void inEveryScene(Consumer<EngagementTree> checks) {
        for (Map.Entry<String, EngagementTree> one : Scenes.all().entrySet()) {
            scene = one.getKey() + ": ";
            checks.accept(one.getValue());
        }
        scene = "";
    }

    void end() {
        if (asked == 0) {
            tell("nothing was checked");
        }
        System.out.println(asked + " checks, " + wrong + " wrong");
        if (wrong != 0) {
            System.exit(1);
        }
    }

    /** An end for a test that has to check every sentence of its section. */
    void endOfSection() {
        for (Map.Entry<String, Integer> one : checksOfSentence.entrySet()) {
            if (one.getValue() == 0) {
                sentence = one.getKey();
                tell("no check stands for this sentence");
            }
        }
        end();
    }

    private void count() {
        asked++;
        checksOfSentence.computeIfPresent(sentence, (key, checks) -> checks + 1);
    }

    // One early fault can make thousands of later answers wrong, which would bury it.
    private void tell(String fault) {
        wrong++;
        if (wrong <= MOST_TOLD) {
            String about = sentence.isEmpty() ? "" : section + ", \"" + sentence + "\" ";
            System.out.println(about + scene + fault);
        }
    }
}
