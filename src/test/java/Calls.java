import java.lang.reflect.Method;
import java.util.ArrayList;
import java.util.HashMap;
import java.util.List;
import java.util.Map;
import java.util.TreeSet;

/** Makes a call of QueryHandles by its name, with numbers (0, 1 for a boolean). */
final class Calls {
    private static final Map<String, Method> BY_NAME = new HashMap<>();

    static {
        for (Method m : QueryHandles.class.getMethods()) {
            if (m.getDeclaringClass() == QueryHandles.class) {
                BY_NAME.put(m.getName(), m);
            }
        }
    }

    private Calls() { }

    static int count() {
        return BY_NAME.size();
    }

    /** All calls of the face, in an order that is always the same. */
    static List<String> names() {
        return new ArrayList<>(new TreeSet<>(BY_NAME.keySet()));
    }

    static long make(QueryHandles x, String call, long[] p) {
        Method m = BY_NAME.get(call);
        Class<?>[] kinds = m.getParameterTypes();
        Object[] values = new Object[kinds.length];
        for (int i = 0; i < kinds.length; i++) {
            values[i] = kinds[i] == int.class ? (Object) (int) p[i]
                : kinds[i] == long.class ? (Object) p[i] : (Object) (p[i] != 0);
        }
        try {
            return ((Number) m.invoke(x, values)).longValue();
        } catch (ReflectiveOperationException e) {
            throw new IllegalStateException(text(call, p) + " threw", e.getCause());
        }
    }

    static String text(String call, long[] p) {
        StringBuilder s = new StringBuilder(call).append('(');
        for (int i = 0; i < p.length; i++) {
            s.append(i > 0 ? ", " : "").append(p[i]);
        }
        return s.append(')').toString();
    }
}
