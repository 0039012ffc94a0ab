import java.lang.reflect.InvocationTargetException;
import java.lang.reflect.Method;
import java.util.ArrayList;
import java.util.Arrays;
import java.util.HashMap;
import java.util.List;
import java.util.Map;

/** One call as data, for StageLines and for PlainStage; as text it is "set(0, 1, 40)". */
record Call(String name, List<Integer> arguments) {
    private static final Map<String, Method> METHODS = new HashMap<>();

    static Call of(String name, int... arguments) {
        return new Call(name, Arrays.stream(arguments).boxed().toList());
    }

    /** An argument is a number or one of the words. */
    static Call read(String text, Map<String, Integer> words) {
        int open = text.indexOf('(');
        if (open < 1 || !text.endsWith(")")) {
            throw new IllegalArgumentException("no call: " + text);
        }
        List<Integer> arguments = new ArrayList<>();
        for (String argument : text.substring(open + 1, text.length() - 1).split(",")) {
            arguments.add(number(argument.trim(), words));
        }
        return new Call(text.substring(0, open), arguments);
    }

    static int number(String text, Map<String, Integer> words) {
        Integer known = words.get(text);
        return known != null ? known : Integer.parseInt(text);
    }

    /** A call that throws ends the test, and so fails it. */
    int on(Object stage) {
        try {
            return (int) methodOf(stage.getClass()).invoke(stage, arguments.toArray());
        } catch (InvocationTargetException e) {
            throw new IllegalStateException(this + " threw", e.getCause());
        } catch (IllegalAccessException e) {
            throw new IllegalStateException(this + " is not to be called", e);
        }
    }

    private Method methodOf(Class<?> type) {
        return METHODS.computeIfAbsent(type.getName() + "." + name, key -> {
            for (Method m : type.getDeclaredMethods()) {
                if (m.getName().equals(name) && m.getParameterCount() == arguments.size()) {
                    return m;
                }
            }
            throw new IllegalArgumentException("no such call: " + this);
        });
    }

    @Override
    public String toString() {
        String list = arguments.toString();
        return name + "(" + list.substring(1, list.length() - 1) + ")";
    }
}
