import java.lang.reflect.InvocationTargetException;
import java.lang.reflect.Method;
import java.util.HashMap;
import java.util.Map;

/** Calls StrataRepo and Model by the names of the calls. */
final class Faces {
    private static final Map<Class<?>, Map<String, Method>> METHODS = new HashMap<>();

    private Faces() {
    }

    private static Map<String, Method> methodsOf(Class<?> kind) {
        Map<String, Method> methods = new HashMap<>();
        for (Method method : kind.getDeclaredMethods()) {
            if (java.lang.reflect.Modifier.isPublic(method.getModifiers())) {
                methods.put(method.getName(), method);
            }
        }
        return methods;
    }

    /** The answer as a text, or the name of the exception; where a flag is wanted, 1 stands for true. */
    static String answer(Object target, String name, int... numbers) {
        Method method = METHODS.computeIfAbsent(target.getClass(), Faces::methodsOf).get(name);
        Object[] arguments = new Object[numbers.length];
        Class<?>[] kinds = method.getParameterTypes();
        for (int n = 0; n < numbers.length; n++) {
            if (kinds[n] == boolean.class) {
                arguments[n] = numbers[n] == 1;
            } else {
                arguments[n] = numbers[n];
            }
        }
        try {
            return String.valueOf(method.invoke(target, arguments));
        } catch (InvocationTargetException e) {
            return e.getCause().getClass().getSimpleName();
        } catch (IllegalAccessException e) {
            throw new IllegalStateException(e);
        }
    }
}
