import java.lang.reflect.InvocationTargetException;
import java.lang.reflect.Method;
import java.util.Arrays;
import java.util.HashMap;
import java.util.Map;

/** Calls a method of the face by its name, on the class or on the model of it, and gives the answer as a text. */
final class Calls {
    private final Object target;
    private final Map<String, Method> methods = new HashMap<>();

    Calls(Object target) {
        this.target = target;
        for (Method method : target.getClass().getDeclaredMethods()) {
            methods.put(method.getName(), method);
            method.setAccessible(true);
        }
    }

    /** The number that is returned, "nothing" from a void method, or "throws." and the exact class of the exception. */
    String answer(String name, Object... arguments) {
        try {
            Object returned = methods.get(name).invoke(target, arguments);
            return returned == null ? "nothing" : returned.toString();
        } catch (InvocationTargetException e) {
            return "throws." + e.getCause().getClass().getSimpleName();
        } catch (IllegalAccessException e) {
            throw new AssertionError(e);
        }
    }

    static String written(String name, Object... arguments) {
        String row = Arrays.toString(arguments);
        return name + "(" + row.substring(1, row.length() - 1) + ")";
    }
}
