import java.lang.reflect.InvocationTargetException;
import java.lang.reflect.Method;
import java.lang.reflect.Modifier;
import java.util.ArrayList;
import java.util.Arrays;
import java.util.List;

/** One desk of the class and one of PlainBooks, asked the same: answers, STATUS and FRACTION must be the same. */
final class Twin {
    private final PennyBooks books = new PennyBooks();
    private final PlainBooks plain = new PlainBooks();
    private final List<String> run = new ArrayList<>();
    private boolean wrong = false;

    boolean isWrong() {
        return wrong;
    }

    int calls() {
        return run.size();
    }

    /** Behind the first wrong answer, with which the whole run is printed, no call is made. */
    long call(String name, Object... args) {
        if (wrong) {
            return 0;
        }
        run.add(name + Arrays.toString(args));
        Object got = invoke(books, name, args);
        Object want = invoke(plain, name, args);
        String mine = got + " " + books.status() + " " + books.top() + " " + books.bottom();
        String theirs = want + " " + plain.status() + " " + plain.top() + " " + plain.bottom();
        if (!mine.equals(theirs)) {
            wrong = true;
            for (String line : run) {
                System.out.println(line);
            }
            System.out.println("answer, status, top, bottom: " + mine + ", due is " + theirs);
        }
        return got instanceof Number n ? n.longValue() : 0;
    }

    private static Object invoke(Object on, String name, Object... args) {
        for (Method m : on.getClass().getDeclaredMethods()) {
            if (m.getName().equals(name) && m.getParameterCount() == args.length && Modifier.isPublic(m.getModifiers())) {
                try {
                    return m.invoke(on, args);
                } catch (IllegalAccessException | InvocationTargetException e) {
                    throw new IllegalStateException(name + Arrays.toString(args), e);
                }
            }
        }
        throw new IllegalStateException(name);
    }

    /** Puts a text on the tape, with blanks behind it up to a whole feed, and makes an EDITION of it and so many blanks. */
    long edition(String text, int more) {
        for (int at = 0; at < text.length(); at += 20) {
            call("feed", four(text, at), four(text, at + 4), four(text, at + 8), four(text, at + 12), four(text, at + 16));
        }
        long edition = call("edition", text.length() + more);
        for (int what = -1; what < 4; what++) {
            call("fault", what);
        }
        return edition;
    }

    private static int four(String text, int at) {
        int four = 0;
        for (int i = at; i < at + 4; i++) {
            four = four << 8 | (i < text.length() ? text.charAt(i) : 32);
        }
        return four;
    }
}
