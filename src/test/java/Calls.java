import java.lang.reflect.Method;
import java.lang.reflect.Modifier;
import java.util.Arrays;
import java.util.HashMap;
import java.util.Map;

/** The class's calls by their names, so that a test can tell a call and make it in one row. */
final class Calls {
    private static final Map<String, Method> BY_NAME = new HashMap<>();

    static {
        for (Method m : RedrawnLines.class.getDeclaredMethods()) {
            if (Modifier.isPublic(m.getModifiers())) {
                BY_NAME.put(m.getName(), m);
            }
        }
    }

    private Calls() {
    }

    static long answer(RedrawnLines x, String name, Object... args) {
        try {
            return ((Number) BY_NAME.get(name).invoke(x, args)).longValue();
        } catch (ReflectiveOperationException e) {
            throw new IllegalStateException(told(name, args), e);
        }
    }

    static String told(String name, Object... args) {
        String row = Arrays.toString(args);
        return name + "(" + row.substring(1, row.length() - 1) + ")";
    }
}
