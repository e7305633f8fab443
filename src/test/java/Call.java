import java.lang.reflect.InvocationTargetException;
import java.lang.reflect.Method;
import java.lang.reflect.Modifier;
import java.util.Arrays;

/** A call of the face as a thing, so that it can be asked with one argument changed, and told by its name. */
final class Call {
    private final String name;
    private final Object[] arguments;
    private final Method method;

    private Call(String name, Object[] arguments) {
        this.name = name;
        this.arguments = arguments;
        this.method = find(name, arguments.length);
    }

    static Call of(String name, Object... arguments) {
        return new Call(name, arguments);
    }

    private static Method find(String name, int many) {
        for (Method m : PennyBooks.class.getDeclaredMethods()) {
            if (m.getName().equals(name) && m.getParameterCount() == many && Modifier.isPublic(m.getModifiers())) {
                return m;
            }
        }
        throw new IllegalStateException(name);
    }

    /** The same call with another number in one place. */
    Call with(int at, long number) {
        Object[] others = arguments.clone();
        boolean isLong = method.getParameterTypes()[at] == long.class;
        if (isLong) {
            others[at] = number;
        } else {
            others[at] = (int) number;
        }
        return new Call(name, others);
    }

    /** A boolean counts 1 or 0. */
    long on(PennyBooks x) {
        try {
            Object answer = method.invoke(x, arguments);
            if (answer instanceof Boolean b) {
                return b ? 1 : 0;
            }
            return ((Number) answer).longValue();
        } catch (IllegalAccessException | InvocationTargetException e) {
            throw new IllegalStateException(toString(), e);
        }
    }

    /** What the call gives with another STATUS than 0. */
    long refusal() {
        return method.getReturnType() == boolean.class ? 0 : PennyBooks.NONE;
    }

    @Override
    public String toString() {
        return name + Arrays.toString(arguments).replace('[', '(').replace(']', ')');
    }
}
