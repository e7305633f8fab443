import java.lang.reflect.InvocationTargetException;
import java.lang.reflect.Method;
import java.lang.reflect.Modifier;
import java.util.ArrayList;
import java.util.Arrays;
import java.util.List;
import java.util.Random;

/** Any call with any arguments in any state: none throws, and one refused gives NONE or false. */
public final class WildTest {
    private static final List<String> WITHOUT_STATUS = List.of("status", "top", "bottom", "feed", "fault");
    private static final int[] EDGES = {Integer.MIN_VALUE, Integer.MIN_VALUE + 1, -5201, -5200, -2, -1, 0, 1, 2, 3, 4, 5,
        7, 8, 9, 10, 11, 12, 13, 15, 16, 25, 26, 27, 30, 39, 40, 59, 60, 61, 99, 100, 101, 199, 200, 519, 520, 600, 601,
        2000, 2001, 9999, 10000, 20000, 20001, 1000000, 1000001, Integer.MAX_VALUE - 1, Integer.MAX_VALUE};

    public static void main(String[] args) {
        int wrong = 0;
        int calls = 0;
        for (int seed = 0; seed < 300 && wrong < 10; seed++) {
            Random random = new Random(seed);
            PennyBooks x = new PennyBooks();
            List<Method> methods = methods();
            for (int i = 0; i < 512 && wrong < 10; i++) {
                Method m = methods.get(random.nextInt(methods.size()));
                wrong += ask(x, m, arguments(m, random, i < 200 ? 20 : 3)) ? 0 : 1;
                calls++;
            }
        }
        System.out.println(calls + " wild calls, " + wrong + " wrong");
        if (wrong != 0) {
            System.exit(1);
        }
    }

    private static List<Method> methods() {
        List<Method> methods = new ArrayList<>();
        for (Method m : PennyBooks.class.getDeclaredMethods()) {
            if (Modifier.isPublic(m.getModifiers())) {
                methods.add(m);
            }
        }
        methods.sort((a, b) -> a.getName().compareTo(b.getName()));
        return methods;
    }

    /** Mostly small numbers, so that much is built; one in so many is of the edges. */
    private static Object[] arguments(Method m, Random random, int mild) {
        Object[] arguments = new Object[m.getParameterCount()];
        for (int i = 0; i < arguments.length; i++) {
            boolean edge = random.nextInt(mild) == 0;
            int number = edge ? EDGES[random.nextInt(EDGES.length)] : random.nextInt(4);
            Class<?> type = m.getParameterTypes()[i];
            if (type == boolean.class) {
                arguments[i] = random.nextBoolean();
            } else if (type == long.class) {
                arguments[i] = edge ? random.nextLong() : (long) number;
            } else {
                arguments[i] = number;
            }
        }
        return arguments;
    }

    private static boolean ask(PennyBooks x, Method m, Object[] arguments) {
        String call = m.getName() + Arrays.toString(arguments);
        int before = x.status();
        long top = x.top();
        try {
            Object answer = m.invoke(x, arguments);
            return fits(x, m, call, answer, before, top);
        } catch (InvocationTargetException | IllegalAccessException e) {
            System.out.println(call + " threw " + e.getCause());
            return false;
        }
    }

    private static boolean fits(PennyBooks x, Method m, String call, Object answer, int before, long top) {
        boolean fits = x.status() >= 0 && x.status() <= 9 && x.bottom() > 0;
        if (WITHOUT_STATUS.contains(m.getName())) {
            fits &= x.status() == before;
        } else if (answer instanceof Boolean b) {
            fits &= b == (x.status() == 0);
        } else if (x.status() != 0) {
            fits &= ((Number) answer).longValue() == -1 && x.top() == top;
        }
        if (!fits) {
            System.out.println(call + " answered " + answer + " with status " + x.status());
        }
        return fits;
    }
}
