import java.lang.reflect.Method;
import java.util.Arrays;

/** A call with its arguments, to be made on the class and on Reference; a boolean counts 1 or 0. */
final class Call {
    static final String[] NAMES = {"rule", "drop", "isRule", "goal", "clear", "node", "nodes", "part", "reached",
        "place", "size", "included", "least", "witness", "terms"};

    private final String name;
    private final int[] arguments;

    Call(String name, int... arguments) {
        this.name = name;
        this.arguments = arguments;
    }

    long on(Object x) {
        try {
            Method method = methodOf(x.getClass());
            Class<?>[] types = method.getParameterTypes();
            Object[] given = new Object[types.length];
            for (int i = 0; i < types.length; i++) {
                given[i] = types[i] == boolean.class ? (Object) (arguments[i] == 1) : (Object) arguments[i];
            }
            Object answer = method.invoke(x, given);
            return answer instanceof Boolean ? ((Boolean) answer ? 1 : 0) : (Integer) answer;
        } catch (ReflectiveOperationException e) {
            throw new IllegalStateException(this + " threw", e);
        }
    }

    private Method methodOf(Class<?> type) {
        for (Method method : type.getDeclaredMethods()) {
            if (method.getName().equals(name)) {
                return method;
            }
        }
        throw new IllegalStateException("no method " + name);
    }

    @Override
    public String toString() {
        String list = Arrays.toString(arguments);
        return name + "(" + list.substring(1, list.length() - 1) + ")";
    }
}
