import java.lang.reflect.InvocationTargetException;
import java.lang.reflect.Method;
import java.util.Map;
import java.util.TreeMap;

/** Calls told as texts, "room 0 1 9 0", so that tables of them can be written. */
final class Calls {
    private static final Map<String, Method> BY_NAME = new TreeMap<>();

    static {
        for (Method method : PromisesKept.class.getMethods()) {
            if (method.getDeclaringClass() == PromisesKept.class) {
                BY_NAME.put(method.getName(), method);
            }
        }
    }

    private Calls() {
    }

    static long answer(PromisesKept x, String call) {
        String[] words = call.split(" ");
        Object[] with = new Object[words.length - 1];
        for (int i = 0; i < with.length; i++) {
            with[i] = Integer.valueOf(words[i + 1]);
        }
        try {
            return ((Number) BY_NAME.get(words[0]).invoke(x, with)).longValue();
        } catch (InvocationTargetException e) {
            throw new IllegalStateException(call + " threw", e.getCause());
        } catch (IllegalAccessException e) {
            throw new IllegalStateException(call, e);
        }
    }

    static void all(PromisesKept x, String... calls) {
        for (String call : calls) {
            answer(x, call);
        }
    }
}
