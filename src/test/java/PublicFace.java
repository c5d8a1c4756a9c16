import java.lang.reflect.Constructor;
import java.lang.reflect.Field;
import java.lang.reflect.Method;
import java.lang.reflect.Modifier;
import java.util.Arrays;
import java.util.Set;
import java.util.TreeSet;
import java.util.stream.Collectors;

/** "The public face": the class has the members that the document writes down, and shows no others. */
public final class PublicFace {
    private static final Class<EngagementTree> CLASS = EngagementTree.class;
    private static final Check check = new Check();

    public static void main(String[] args) throws IllegalAccessException {
        Set<String> due = fromTheDocument();
        Set<String> shown = fromTheClass();
        for (String member : due) {
            check.holds("the class has: " + member, shown.contains(member));
        }
        for (String member : shown) {
            check.holds("the document has: " + member, due.contains(member));
        }
        check.due("classes inside the class", CLASS.getDeclaredClasses().length, 0);
        check.holds("it is a class by itself", CLASS.getSuperclass() == Object.class
            && CLASS.getInterfaces().length == 0 && CLASS.getPackageName().isEmpty());
        check.end();
    }

    /** Parameters lose their names, which no caller can see. */
    private static Set<String> fromTheDocument() {
        Set<String> members = new TreeSet<>();
        for (String line : Sentences.of("The public face")) {
            String plain = line.strip();
            if (plain.startsWith("public")) {
                members.add(plain.replaceAll("[;{]$", "").strip().replaceAll("int \\w+([,)])", "int$1"));
            }
        }
        check.due("lines of the face", members.size(), 1 + 17 + 1 + 16);
        return members;
    }

    private static Set<String> fromTheClass() throws IllegalAccessException {
        Set<String> members = new TreeSet<>();
        members.add(Modifier.toString(CLASS.getModifiers()) + " class " + CLASS.getName());
        for (Field field : CLASS.getDeclaredFields()) {
            if (!Modifier.isPrivate(field.getModifiers())) {
                boolean fixed = Modifier.isStatic(field.getModifiers());
                members.add(Modifier.toString(field.getModifiers()) + " " + field.getType() + " " + field.getName()
                    + " = " + (fixed ? field.get(null) : "of each object"));
            }
        }
        for (Constructor<?> one : CLASS.getDeclaredConstructors()) {
            if (!Modifier.isPrivate(one.getModifiers())) {
                members.add(Modifier.toString(one.getModifiers()) + " " + one.getName() + list(one.getParameterTypes()));
            }
        }
        for (Method method : CLASS.getDeclaredMethods()) {
            if (!Modifier.isPrivate(method.getModifiers())) {
                members.add(Modifier.toString(method.getModifiers()) + " " + method.getReturnType() + " "
                    + method.getName() + list(method.getParameterTypes()));
            }
        }
        return members;
    }

    private static String list(Class<?>[] types) {
        return Arrays.stream(types).map(Class::getName).collect(Collectors.joining(", ", "(", ")"));
    }
}
