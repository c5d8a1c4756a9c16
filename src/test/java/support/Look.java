import java.util.ArrayList;
import java.util.HashMap;
import java.util.LinkedHashMap;
import java.util.List;
import java.util.Map;

/** Everything that the questions of the document tell of an object at one moment. */
final class Look {
    private static final List<Call> QUESTIONS = questions();
    private static final Map<String, Integer> PLACES = places();

    private final int[] answers = new int[QUESTIONS.size()];

    private Look(Object x) {
        for (int i = 0; i < answers.length; i++) {
            answers[i] = QUESTIONS.get(i).on(x);
        }
    }

    /** x is an EngagementTree or a LocalModel. */
    static Look at(Object x) {
        return new Look(x);
    }

    int answer(String question) {
        return answers[PLACES.get(question)];
    }

    /** The questions whose answers differ from those of an earlier look, with their answers now. */
    Map<String, Integer> changesSince(Look before) {
        Map<String, Integer> changes = new LinkedHashMap<>();
        for (int i = 0; i < answers.length; i++) {
            if (answers[i] != before.answers[i]) {
                changes.put(QUESTIONS.get(i).toString(), answers[i]);
            }
        }
        return changes;
    }

    // One beyond each end too: an answer to a wrong argument mustn't change either.
    private static List<Call> questions() {
        List<Call> all = new ArrayList<>();
        for (int s = -1; s <= 32; s++) {
            all.add(Call.of("note(" + s + ")"));
        }
        for (int p = -1; p <= 8; p++) {
            for (String name : List.of("state", "parent", "deficit", "stained")) {
                all.add(Call.of(name + "(" + p + ")"));
            }
            for (int what = -1; what <= 3; what++) {
                all.add(Call.of("tally(" + p + ", " + what + ")"));
            }
        }
        for (int which = -1; which <= 3; which++) {
            all.add(Call.of("result(" + which + ")"));
        }
        all.add(Call.of("token()"));
        all.add(Call.of("verdict()"));
        return all;
    }

    private static Map<String, Integer> places() {
        Map<String, Integer> places = new HashMap<>();
        for (Call question : QUESTIONS) {
            places.put(question.toString(), places.size());
        }
        return places;
    }
}
