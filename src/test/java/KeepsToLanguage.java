import java.io.IOException;
import java.lang.reflect.Field;
import java.lang.reflect.Method;
import java.lang.reflect.Modifier;
import java.nio.file.Files;
import java.nio.file.Path;
import java.util.HashSet;
import java.util.Map;
import java.util.Set;
import java.util.TreeMap;
import java.util.TreeSet;
import java.util.regex.Matcher;
import java.util.regex.Pattern;

/** Those rules of LANGUAGE.md that a look at the class can tell; PublicFace tells what it shows. */
public final class KeepsToLanguage {
    private static final Path SOURCE = Path.of("src/main/java/EngagementTree.java");
    private static final Class<EngagementTree> CLASS = EngagementTree.class;
    private static final Check check = new Check();

    public static void main(String[] args) throws IOException {
        fields();
        methods();
        String code = Files.readString(SOURCE).replaceAll("(?s)/\\*.*?\\*/", "").replaceAll("//[^\n]*", "");
        words(code);
        loops(code);
        calls(bodies(code));
        check.end();
    }

    private static void fields() {
        int ofObjects = 0;
        for (Field field : CLASS.getDeclaredFields()) {
            Class<?> type = field.getType();
            boolean fixed = Modifier.isStatic(field.getModifiers());
            ofObjects += fixed ? 0 : 1;
            Class<?> element = !fixed && type.isArray() ? type.getComponentType() : type;
            check.holds(field + " is of an allowed type", element.isPrimitive()
                && element != float.class && element != double.class);
            if (fixed) {
                check.holds(field + " is a constant", Modifier.isFinal(field.getModifiers())
                    && (type == int.class || type == long.class));
            }
        }
        check.holds("there are at most 40 fields", ofObjects <= 40);
    }

    private static void methods() {
        Set<String> open = new HashSet<>();
        for (Method method : CLASS.getDeclaredMethods()) {
            check.holds(method + " takes at most seven", method.getParameterCount() <= 7);
            check.holds(method + " answers no array", !method.getReturnType().isArray());
            if (Modifier.isPublic(method.getModifiers())) {
                open.add(method.getName());
            }
        }
        for (Method method : CLASS.getDeclaredMethods()) {
            if (Modifier.isPrivate(method.getModifiers())) {
                check.holds(method + " has a name of its own", !open.contains(method.getName()));
            }
        }
    }

    private static void words(String code) {
        String[] ruledOut = {"package", "import", "null", "throw", "throws", "try", "catch", "finally",
            "synchronized", "assert", "instanceof", "float", "double", "class\\s+(?!EngagementTree\\b)\\w+",
            "interface", "enum", "record", "String", "Object", "Math", "Integer", "System", "Arrays",
            "hashCode", "equals", "toString", "getClass"};
        for (String word : ruledOut) {
            check.holds("the code has no '" + word + "'", !Pattern.compile("\\b" + word + "\\b").matcher(code).find());
        }
        for (String mark : new String[] {"->", "::", "\"", "@", "[][]"}) {
            check.holds("the code has no '" + mark + "'", !code.contains(mark));
        }
        Matcher made = Pattern.compile("(?m)^.*\\bnew\\b.*$").matcher(code);
        Pattern field = Pattern.compile("    private final \\w+\\[\\] \\w+ = new \\w+\\[[A-Z_]+\\];");
        while (made.find()) {
            check.holds("made as a field:" + made.group(), field.matcher(made.group()).matches());
        }
        Pattern nested = Pattern.compile("\\b\\w+\\([^()]*\\b\\w+\\([^()]*\\)[^()]*\\)");
        for (String line : code.split("\n")) {
            String inner = line.replaceAll("\\b(if|for|while|switch|return)\\b", "");
            check.holds("no call inside a call:" + line, !nested.matcher(inner).find());
        }
    }

    // The one form of loop that the class needs shows its end in its first line.
    private static void loops(String code) {
        Pattern counted = Pattern.compile("for \\(int (\\w+) = \\d; \\1 < \\w+; \\1\\+\\+\\) \\{");
        Matcher loop = Pattern.compile("(?m)\\b(?:for|while|do)\\b.*$").matcher(code);
        while (loop.find()) {
            check.holds("it counts up to a bound: " + loop.group(), counted.matcher(loop.group()).matches());
        }
    }

    /** The text of each method by its name, which the rules leave to one method alone. */
    private static Map<String, String> bodies(String code) {
        Map<String, String> bodies = new TreeMap<>();
        String header = "^    (?:public|private) [\\w ]*?(\\w+)\\([^)]*\\) \\{$";
        Matcher method = Pattern.compile("(?ms)" + header + "(.*?)^    \\}$").matcher(code);
        while (method.find()) {
            bodies.put(method.group(1), method.group(2));
        }
        int declared = CLASS.getDeclaredMethods().length + CLASS.getDeclaredConstructors().length;
        check.due("methods found in the code", bodies.size(), declared);
        return bodies;
    }

    private static void calls(Map<String, String> bodies) {
        for (Map.Entry<String, String> method : bodies.entrySet()) {
            check.holds(method.getKey() + " has at most 60 lines", method.getValue().split("\n").length <= 60);
            Set<String> reached = Set.of(method.getKey());
            for (int depth = 1; depth <= 6; depth++) {
                reached = calledBy(reached, bodies);
                check.holds(method.getKey() + " doesn't come to itself", !reached.contains(method.getKey()));
            }
            check.holds(method.getKey() + " calls at most six deep, not on to " + reached, reached.isEmpty());
        }
    }

    private static Set<String> calledBy(Set<String> callers, Map<String, String> bodies) {
        Set<String> called = new TreeSet<>();
        for (String caller : callers) {
            Matcher call = Pattern.compile("\\b(\\w+)\\(").matcher(bodies.get(caller));
            while (call.find()) {
                if (bodies.containsKey(call.group(1))) {
                    called.add(call.group(1));
                }
            }
        }
        return called;
    }
}
