import java.lang.reflect.Method;
import java.util.HashMap;
import java.util.Map;

/** A call as a text, "send(0, 1)", so that it is told, and made on the class and on the model alike. */
final class Call {
    private static final Map<Class<?>, Map<String, Method>> METHODS = new HashMap<>();

    private final String text;
    private final String name;
    private final Object[] arguments;

    private Call(String text, String name, Object[] arguments) {
        this.text = text;
        this.name = name;
        this.arguments = arguments;
    }

    static Call of(String text) {
        int open = text.indexOf('(');
        String list = text.substring(open + 1, text.length() - 1);
        String[] numbers = list.isEmpty() ? new String[0] : list.split(", ");
        Object[] arguments = new Object[numbers.length];
        for (int i = 0; i < numbers.length; i++) {
            arguments[i] = Integer.valueOf(numbers[i]);
        }
        return new Call(text, text.substring(0, open), arguments);
    }

    /** A boolean answer counts 1 or 0. */
    int on(Object x) {
        try {
            Object answer = methodsOf(x.getClass()).get(name).invoke(x, arguments);
            return answer instanceof Boolean ? ((Boolean) answer ? 1 : 0) : (Integer) answer;
        } catch (ReflectiveOperationException fault) {
            throw new IllegalStateException(text, fault);
        }
    }

    boolean isA(String wanted) {
        return name.equals(wanted);
    }

    int argument(int i) {
        return (Integer) arguments[i];
    }

    @Override
    public String toString() {
        return text;
    }

    private static Map<String, Method> methodsOf(Class<?> type) {
        return METHODS.computeIfAbsent(type, t -> {
            Map<String, Method> byName = new HashMap<>();
            for (Method method : t.getDeclaredMethods()) {
                byName.put(method.getName(), method);
            }
            return byName;
        });
    }
}
