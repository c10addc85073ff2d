import java.lang.reflect.InvocationTargetException;
import java.lang.reflect.Method;
import java.util.HashMap;
import java.util.Map;

/** Calls by their names, so that a test is written as the document writes a call, and told so when it is wrong. */
final class Calls {
    private static final Map<String, Method> KNOWN = new HashMap<>();

    private Calls() {
    }

    /** What a house (a TinHouse or a Plain) answers. */
    static long ask(Object house, String call, long... numbers) {
        Method method = KNOWN.computeIfAbsent(house.getClass().getName() + " " + call, key -> find(house, call));
        Class<?>[] types = method.getParameterTypes();
        if (types.length != numbers.length) {
            throw new IllegalStateException(written(call, numbers) + " has not as many numbers");
        }
        Object[] given = new Object[numbers.length];
        for (int i = 0; i < given.length; i++) {
            given[i] = types[i] == int.class ? (Object) Math.toIntExact(numbers[i]) : (Object) numbers[i];
        }
        try {
            return ((Number) method.invoke(house, given)).longValue();
        } catch (IllegalAccessException | InvocationTargetException e) {
            throw new IllegalStateException(written(call, numbers) + " did not answer", e);
        }
    }

    private static Method find(Object house, String call) {
        for (Method method : house.getClass().getDeclaredMethods()) {
            if (method.getName().equals(call) && isNumber(method.getReturnType())) {
                return method;
            }
        }
        throw new IllegalStateException("no such call: " + call);
    }

    private static boolean isNumber(Class<?> type) {
        return type == int.class || type == long.class;
    }

    static String written(String call, long... numbers) {
        StringBuilder text = new StringBuilder(call).append('(');
        for (int i = 0; i < numbers.length; i++) {
            text.append(i == 0 ? "" : ", ").append(numbers[i]);
        }
        return text.append(')').toString();
    }
}
