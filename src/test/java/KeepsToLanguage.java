import java.io.IOException;
import java.lang.reflect.Constructor;
import java.lang.reflect.Field;
import java.lang.reflect.Method;
import java.lang.reflect.Modifier;
import java.nio.file.Files;
import java.nio.file.Path;
import java.util.Arrays;
import java.util.HashSet;
import java.util.Map;
import java.util.Set;
import java.util.TreeMap;
import java.util.TreeSet;
import java.util.regex.Matcher;
import java.util.regex.Pattern;

/** The public face of the document, and those rules of LANGUAGE.md that a look at the class can tell. */
public final class KeepsToLanguage {
    private static final Path SOURCE = Path.of("src/main/java/EngagementTree.java");
    private static final Class<EngagementTree> CLASS = EngagementTree.class;
    private static final Check check = new Check();

    private static final String FACE = "int deficit(int), int deliver(int), int note(int), int parent(int), "
        + "int passToken(), int rest(int), int result(int), int send(int, int), int settle(), int start(), "
        + "int state(int), int tally(int, int), int token(), int verdict(), int work(int, int), "
        + "boolean stained(int)";
    private static final String CONSTANTS = "ACTIVE=2, ANNOUNCED=1, BAD=-1, BUSY=-5, FLYING=1, FREE=0, FULL=-3, "
        + "HELD=2, NEUTRAL=0, NONE=-1, NOT_ACTIVE=-2, OK=0, REFUSED=-4, REPLYING=3, RING=2, TREE=1, WAITING=1";

    public static void main(String[] args) throws IOException, IllegalAccessException {
        face();
        fields();
        methods();
        String code = Files.readString(SOURCE).replaceAll("(?s)/\\*.*?\\*/", "").replaceAll("//[^\n]*", "");
        words(code);
        calls(bodies(code));
        check.end();
    }

    private static void face() throws IllegalAccessException {
        check.due("the class is public and final", CLASS.getModifiers(), Modifier.PUBLIC | Modifier.FINAL);
        check.due("nested classes", CLASS.getDeclaredClasses().length, 0);
        Constructor<?>[] constructors = CLASS.getDeclaredConstructors();
        check.due("constructors", constructors.length, 1);
        check.holds("the constructor is public", Modifier.isPublic(constructors[0].getModifiers()));
        check.holds("it takes two ints",
            Arrays.equals(constructors[0].getParameterTypes(), new Class<?>[] {int.class, int.class}));

        Set<String> methods = new HashSet<>();
        for (Method method : CLASS.getDeclaredMethods()) {
            if (!Modifier.isPrivate(method.getModifiers())) {
                check.due(method + " is public alone", method.getModifiers(), Modifier.PUBLIC);
                String types = Arrays.toString(method.getParameterTypes()).replaceAll("[\\[\\]]", "");
                methods.add(method.getReturnType() + " " + method.getName() + "(" + types + ")");
            }
        }
        check.holds("public methods " + methods, methods.equals(new HashSet<>(split(FACE))));

        TreeMap<String, Object> constants = new TreeMap<>();
        for (Field field : CLASS.getDeclaredFields()) {
            if (!Modifier.isPrivate(field.getModifiers())) {
                check.holds(field + " is an int constant", field.getType() == int.class
                    && field.getModifiers() == (Modifier.PUBLIC | Modifier.STATIC | Modifier.FINAL));
                constants.put(field.getName(), field.get(null));
            }
        }
        check.holds("public constants " + constants, constants.toString().equals("{" + CONSTANTS + "}"));
    }

    private static Set<String> split(String list) {
        return new TreeSet<>(Arrays.asList(list.split("(?<=\\)), ")));
    }

    private static void fields() {
        int ofObjects = 0;
        for (Field field : CLASS.getDeclaredFields()) {
            Class<?> type = field.getType();
            boolean fixed = Modifier.isStatic(field.getModifiers());
            ofObjects += fixed ? 0 : 1;
            Class<?> element = !fixed && type.isArray() ? type.getComponentType() : type;
            check.holds(field + " is of an allowed type", element.isPrimitive()
                && element != float.class && element != double.class);
            if (fixed) {
                check.holds(field + " is a constant", Modifier.isFinal(field.getModifiers())
                    && (type == int.class || type == long.class));
            }
        }
        check.holds("there are at most 40 fields", ofObjects <= 40);
    }

    private static void methods() {
        Set<String> open = new HashSet<>();
        for (Method method : CLASS.getDeclaredMethods()) {
            check.holds(method + " takes at most seven", method.getParameterCount() <= 7);
            check.holds(method + " answers no array", !method.getReturnType().isArray());
            if (Modifier.isPublic(method.getModifiers())) {
                open.add(method.getName());
            }
        }
        for (Method method : CLASS.getDeclaredMethods()) {
            if (Modifier.isPrivate(method.getModifiers())) {
                check.holds(method + " has a name of its own", !open.contains(method.getName()));
            }
        }
    }

    private static void words(String code) {
        String[] ruledOut = {"package", "import", "null", "throw", "throws", "try", "catch", "finally",
            "synchronized", "assert", "instanceof", "float", "double", "class\\s+(?!EngagementTree\\b)\\w+",
            "interface", "enum", "record", "String", "Object", "Math", "Integer", "System", "Arrays",
            "hashCode", "equals", "toString", "getClass"};
        for (String word : ruledOut) {
            check.holds("the code has no '" + word + "'", !Pattern.compile("\\b" + word + "\\b").matcher(code).find());
        }
        for (String mark : new String[] {"->", "::", "\"", "@", "[][]"}) {
            check.holds("the code has no '" + mark + "'", !code.contains(mark));
        }
        Matcher made = Pattern.compile("(?m)^.*\\bnew\\b.*$").matcher(code);
        Pattern field = Pattern.compile("    private final \\w+\\[\\] \\w+ = new \\w+\\[[A-Z_]+\\];");
        while (made.find()) {
            check.holds("made as a field:" + made.group(), field.matcher(made.group()).matches());
        }
        Pattern nested = Pattern.compile("\\b\\w+\\([^()]*\\b\\w+\\([^()]*\\)[^()]*\\)");
        for (String line : code.split("\n")) {
            String inner = line.replaceAll("\\b(if|for|while|switch|return)\\b", "");
            check.holds("no call inside a call:" + line, !nested.matcher(inner).find());
        }
    }
    /** The text of each method by its name, which the rules leave to one method alone. */
    private static Map<String, String> bodies(String code) {
        Map<String, String> bodies = new TreeMap<>();
        String header = "^    (?:public|private) [\\w ]*?(\\w+)\\([^)]*\\) \\{$";
        Matcher method = Pattern.compile("(?ms)" + header + "(.*?)^    \\}$").matcher(code);
        while (method.find()) {
            bodies.put(method.group(1), method.group(2));
        }
        int declared = CLASS.getDeclaredMethods().length + CLASS.getDeclaredConstructors().length;
        check.due("methods found in the code", bodies.size(), declared);
        return bodies;
    }

    private static void calls(Map<String, String> bodies) {
        for (Map.Entry<String, String> method : bodies.entrySet()) {
            check.holds(method.getKey() + " has at most 60 lines", method.getValue().split("\n").length <= 60);
            Set<String> reached = Set.of(method.getKey());
            for (int depth = 1; depth <= 6; depth++) {
                reached = calledBy(reached, bodies);
                check.holds(method.getKey() + " doesn't come to itself", !reached.contains(method.getKey()));
            }
            check.holds(method.getKey() + " calls at most six deep, not on to " + reached, reached.isEmpty());
        }
    }

    private static Set<String> calledBy(Set<String> callers, Map<String, String> bodies) {
        Set<String> called = new TreeSet<>();
        for (String caller : callers) {
            Matcher call = Pattern.compile("\\b(\\w+)\\(").matcher(bodies.get(caller));
            while (call.find()) {
                if (bodies.containsKey(call.group(1))) {
                    called.add(call.group(1));
                }
            }
        }
        return called;
    }
}
