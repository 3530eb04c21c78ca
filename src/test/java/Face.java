import java.lang.reflect.Method;
import java.lang.reflect.Modifier;
import java.util.Arrays;
import java.util.Map;
import java.util.TreeMap;

/** The calls of the class, by their names. */
final class Face {
    static final Map<String, Method> CALLS = new TreeMap<>();

    static {
        for (Method method : LipsThatFit.class.getDeclaredMethods()) {
            if (Modifier.isPublic(method.getModifiers())) {
                CALLS.put(method.getName(), method);
            }
        }
    }

    private Face() {
    }

    /** What a call answers; what it throws goes on as a fault of the test. */
    static long call(LipsThatFit x, String name, long... a) {
        Method method = CALLS.get(name);
        Class<?>[] types = method.getParameterTypes();
        Object[] given = new Object[a.length];
        for (int i = 0; i < a.length; i++) {
            if (types[i] == long.class) {
                given[i] = a[i];
            } else {
                given[i] = (int) a[i];
            }
        }
        try {
            return ((Number) method.invoke(x, given)).longValue();
        } catch (ReflectiveOperationException fault) {
            throw new IllegalStateException(told(name, a), fault);
        }
    }

    static String told(String name, long... a) {
        String given = Arrays.toString(a);
        return name + "(" + given.substring(1, given.length() - 1) + ")";
    }
}
