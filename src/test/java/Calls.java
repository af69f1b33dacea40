import java.lang.reflect.InvocationTargetException;
import java.lang.reflect.Method;
import java.util.HashMap;
import java.util.Map;

/** Asks calls of the face by their names, so that a test can tell them in tables. */
final class Calls {
    private static final Map<String, Method> KNOWN = new HashMap<>();

    private Calls() {
    }

    private static Method face(String name) {
        for (Method method : SkateBonds.class.getDeclaredMethods()) {
            if (method.getName().equals(name)) {
                return method;
            }
        }
        throw new IllegalArgumentException("the face has no " + name);
    }

    private static Method of(Object x, String name) throws NoSuchMethodException {
        String key = x.getClass().getName() + " " + name;
        Method known = KNOWN.get(key);
        if (known == null) {
            known = x.getClass().getDeclaredMethod(name, face(name).getParameterTypes());
            KNOWN.put(key, known);
        }
        return known;
    }

    /** What an object, SkateBonds or PlainBonds, answers to a call. */
    static long ask(Object x, String name, Object... with) {
        try {
            return ((Number) of(x, name).invoke(x, with)).longValue();
        } catch (InvocationTargetException thrown) {
            throw new IllegalStateException(told(name, with) + " has thrown", thrown.getCause());
        } catch (ReflectiveOperationException wrong) {
            throw new IllegalStateException(told(name, with), wrong);
        }
    }

    static String told(String name, Object... with) {
        StringBuilder told = new StringBuilder(name).append('(');
        for (int k = 0; k < with.length; k++) {
            told.append(k == 0 ? "" : ", ").append(with[k]);
        }
        return told.append(')').toString();
    }
}
