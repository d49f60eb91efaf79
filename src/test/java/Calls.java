import java.lang.reflect.Method;
import java.util.Arrays;
import java.util.HashMap;
import java.util.Map;

/** The calls of the class by their names. */
final class Calls {
    private static final Map<String, Method> METHODS = methods();

    private Calls() {
    }

    private static Map<String, Method> methods() {
        Map<String, Method> methods = new HashMap<>();
        for (Method method : StrikeBallots.class.getDeclaredMethods()) {
            methods.put(method.getName(), method);
        }
        return methods;
    }

    static boolean isCall(String name, int arguments) {
        return METHODS.containsKey(name) && METHODS.get(name).getParameterCount() == arguments;
    }

    static int ask(StrikeBallots x, String name, int... args) throws ReflectiveOperationException {
        return (Integer) METHODS.get(name).invoke(x, Arrays.stream(args).boxed().toArray());
    }
}
