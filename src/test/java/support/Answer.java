/** An answer as a text: a number, a constant of the class, a sum of these, true or false. */
final class Answer {
    private Answer() {
    }

    static int of(String text) {
        int sum = 0;
        for (String part : text.split(" \\+ ")) {
            sum += one(part);
        }
        return sum;
    }

    private static int one(String text) {
        if (text.matches("-?\\d+")) {
            return Integer.parseInt(text);
        }
        if (text.equals("true") || text.equals("false")) {
            return text.equals("true") ? 1 : 0;
        }
        try {
            return EngagementTree.class.getField(text).getInt(null);
        } catch (ReflectiveOperationException fault) {
            throw new IllegalArgumentException(text, fault);
        }
    }
}
