import java.lang.reflect.InvocationTargetException;
import java.lang.reflect.Method;
import java.util.ArrayList;
import java.util.HashMap;
import java.util.List;
import java.util.Map;

/** The house and the slow one side by side: each call goes to both, and both must answer the same. */
final class Twin {
    private static final Map<String, Method> FAST = methods(PresheafHouse.class);
    private static final Map<String, Method> SLOW = methods(SlowHouse.class);

    final PresheafHouse fast = new PresheafHouse();
    final SlowHouse slow = new SlowHouse();
    final List<String> calls = new ArrayList<>();
    /** How often each method answered, and how often it threw what. */
    final Map<String, Integer> tally = new HashMap<>();
    String difference = null;

    private static Map<String, Method> methods(Class<?> of) {
        Map<String, Method> found = new HashMap<>();
        for (Method method : of.getDeclaredMethods()) {
            if (java.lang.reflect.Modifier.isPublic(method.getModifiers())) {
                found.put(method.getName(), method);
            }
        }
        return found;
    }

    static Iterable<String> names() {
        return new java.util.TreeSet<>(FAST.keySet());
    }

    static Class<?>[] types(String name) {
        return FAST.get(name).getParameterTypes();
    }

    private static Object answer(Method method, Object on, Object[] arguments) {
        try {
            return method.invoke(on, arguments);
        } catch (InvocationTargetException thrown) {
            return "throws." + thrown.getCause().getClass().getSimpleName();
        } catch (IllegalAccessException impossible) {
            return "cannot be called";
        }
    }

    /** What a house answers, or the exception's name behind throws. */
    static Object ask(PresheafHouse house, String name, Object... arguments) {
        return answer(FAST.get(name), house, arguments);
    }

    /** What both answer; where they do not, the first difference is kept. */
    Object call(String name, Object... arguments) {
        Object want = answer(SLOW.get(name), slow, arguments);
        Object got = answer(FAST.get(name), fast, arguments);
        String text = name + java.util.Arrays.toString(arguments);
        calls.add(text);
        Object last = arguments.length > 0 ? arguments[arguments.length - 1] : "";
        String kind = last instanceof Character && "x+^&|>blr".indexOf((char) last) >= 0 ? " " + last : "";
        tally.merge(name + kind + " " + (want instanceof String ? want : "answers"), 1, Integer::sum);
        if (difference == null && !want.equals(got)) {
            difference = text + " answered " + got + ", due is " + want;
        }
        return want;
    }

    int number(String name, Object... arguments) {
        Object found = call(name, arguments);
        return found instanceof Integer ? (Integer) found : -1;
    }
}
