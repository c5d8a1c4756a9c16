import java.util.ArrayList;
import java.util.List;
import java.util.Map;
import java.util.TreeMap;

/** Compares answers with those due, and what can be seen of an object before and after a call. */
final class Check {
    private static final int MOST_TOLD = 50;

    private int asked = 0;
    private int wrong = 0;

    void due(String call, int got, int want) {
        asked++;
        if (got != want) {
            tell(call + " answered " + got + ", due is " + want);
        }
    }

    // One early fault can make thousands of later answers wrong, which would bury it.
    private void tell(String fault) {
        wrong++;
        if (wrong <= MOST_TOLD) {
            System.out.println(fault);
        }
    }

    void due(String call, boolean got, boolean want) {
        due(call, got ? 1 : 0, want ? 1 : 0);
    }

    /** Everything that the questions of the document tell, wrong arguments included. */
    static Map<String, Integer> look(EngagementTree x) {
        Map<String, Integer> seen = new TreeMap<>();
        for (int s = -1; s <= 32; s++) {
            seen.put("note(" + s + ")", x.note(s));
        }
        for (int p = -1; p <= 8; p++) {
            seen.put("state(" + p + ")", x.state(p));
            seen.put("parent(" + p + ")", x.parent(p));
            seen.put("deficit(" + p + ")", x.deficit(p));
            seen.put("stained(" + p + ")", x.stained(p) ? 1 : 0);
            for (int what = -1; what <= 3; what++) {
                seen.put("tally(" + p + ", " + what + ")", x.tally(p, what));
            }
        }
        for (int which = -1; which <= 3; which++) {
            seen.put("result(" + which + ")", x.result(which));
        }
        seen.put("token()", x.token());
        seen.put("verdict()", x.verdict());
        return seen;
    }

    /**
     * The changes since before must be exactly those listed, each as "question = new answer".
     * So a change that the document doesn't ask for is found as well as one that is missing.
     */
    void changes(String call, Map<String, Integer> before, EngagementTree x, String... listed) {
        asked++;
        List<String> missing = new ArrayList<>(List.of(listed));
        for (Map.Entry<String, Integer> now : look(x).entrySet()) {
            int was = before.get(now.getKey());
            String change = now.getKey() + " = " + now.getValue();
            if (now.getValue() != was && !missing.remove(change)) {
                tell("after " + call + ": " + change + " isn't due, it was " + was);
            }
        }
        for (String change : missing) {
            tell("after " + call + ": no change to " + change);
        }
    }

    void end() {
        if (asked == 0) {
            System.out.println("nothing was asked");
            System.exit(1);
        }
        System.out.println(asked + " checks, " + wrong + " wrong");
        if (wrong != 0) {
            System.exit(1);
        }
    }
}
