import java.io.IOException;
import java.lang.reflect.Field;
import java.lang.reflect.Method;
import java.lang.reflect.Modifier;
import java.nio.file.Files;
import java.nio.file.Path;
import java.util.ArrayList;
import java.util.Arrays;
import java.util.List;
import java.util.TreeSet;
import java.util.regex.Matcher;
import java.util.regex.Pattern;

/** What of ../shared/LANGUAGE.md can be seen in the source and the compiled class; run from the project's folder. */
public final class LanguageTest {
    private static final Path SOURCE = Path.of("src/main/java/PennyBooks.java");
    private static final List<String> FACE = List.of("int status()", "long top()", "long bottom()",
        "boolean tray(int,int,int)", "boolean write(int,int,long)", "long read(int,int)",
        "boolean pour(int,int,int,int,int)", "int family(int,int)", "boolean words(long,long,long)",
        "int line(int,int,int,int,boolean,int,int)", "boolean reading(int,int,int)", "boolean asof(int)",
        "int pence(int)", "int feed(int,int,int,int,int)", "int edition(int)", "int fault(int)", "int kind(int,int,int)",
        "int moved(int,int)", "int spent(int,int,int,int)", "boolean told(int,int,int)", "int out(int,int)",
        "int slips(int,int,int)", "int slip(int)", "boolean rules(int,int)", "long ways(int,int)",
        "int span(int,int,int,int)", "boolean member(int,int,int,int)", "boolean scale(int,int,int,int)",
        "int mouths(int,int)", "int share(int,int,int,int)", "int price(int,int,int,int)", "int change(int,int)",
        "int weights(int,int,int)", "int weight(int)", "int gaps(int)", "int bound(int,int,int,int)", "int loss(int,int)",
        "int fell(int,int,int,int)", "int likes(int,int)");

    public static void main(String[] args) throws IOException {
        face();
        classes();
        String code = Files.readString(SOURCE).replaceAll("(?s)/\\*.*?\\*/", "").replaceAll("//[^\n]*", "");
        words(code);
        library(code);
        makesNothingLater(code);
        methods(Files.readAllLines(SOURCE));
        Tests.end();
    }

    private static void face() {
        TreeSet<String> seen = new TreeSet<>();
        TreeSet<String> open = new TreeSet<>();
        for (Method m : PennyBooks.class.getDeclaredMethods()) {
            if (Modifier.isPublic(m.getModifiers())) {
                seen.add(Arrays.toString(m.getParameterTypes()).replaceAll("[\\[\\] ]", "").transform(
                    p -> m.getReturnType() + " " + m.getName() + "(" + p + ")"));
                open.add(m.getName());
            } else {
                Tests.due(m + " is private", Modifier.isPrivate(m.getModifiers()) || m.isSynthetic(), true);
            }
        }
        for (String call : FACE) {
            Tests.due("face has " + call, seen.contains(call), true);
        }
        Tests.due("no other public method", seen.size(), FACE.size());
        for (Class<?> c : everyClass()) {
            for (Method m : c.getDeclaredMethods()) {
                boolean hidden = c != PennyBooks.class || Modifier.isPrivate(m.getModifiers());
                Tests.due(m + " bears a public name", hidden && open.contains(m.getName()), false);
            }
        }
        Tests.due("constructors", PennyBooks.class.getDeclaredConstructors().length, 1);
        Tests.due("final", Modifier.isFinal(PennyBooks.class.getModifiers()), true);
        Tests.due("NONE", PennyBooks.NONE, -1);
    }

    private static List<Class<?>> everyClass() {
        List<Class<?>> all = new ArrayList<>(List.of(PennyBooks.class));
        all.addAll(Arrays.asList(PennyBooks.class.getDeclaredClasses()));
        return all;
    }

    private static void classes() {
        Tests.due("at most some twelve classes", everyClass().size() <= 12, true);
        for (Class<?> c : everyClass()) {
            int fields = 0;
            for (Field f : c.getDeclaredFields()) {
                boolean still = Modifier.isStatic(f.getModifiers());
                fields += still ? 0 : 1;
                Tests.due(f + " is final if static", !still || Modifier.isFinal(f.getModifiers()), true);
                boolean isNone = f.getName().equals("NONE") && c == PennyBooks.class;
                Tests.due(f + " is private", isNone || Modifier.isPrivate(f.getModifiers()), true);
            }
            Tests.due(c + " has at most twenty fields", fields <= 20, true);
            Tests.due(c + " is static", c == PennyBooks.class || Modifier.isStatic(c.getModifiers()), true);
            for (Method m : c.getDeclaredMethods()) {
                Tests.due(m + " takes at most seven", m.getParameterCount() <= 7, true);
            }
        }
    }

    private static void words(String code) {
        Matcher m = Pattern.compile("\\b(throw|throws|try|catch|synchronized|assert|native|volatile|transient|double"
            + "|float|Object|NaN|lambda|MAX_VALUE|MIN_VALUE)\\b|->|::|Exact\\b|@").matcher(code);
        while (m.find()) {
            Tests.due("the source has " + m.group(), true, false);
        }
        for (char c : code.toCharArray()) {
            Tests.due("a sign of the source", c < 128, true);
        }
    }

    private static void library(String code) {
        List<String> listed = List.of("Math.max", "Math.min", "Math.abs", "Integer.bitCount", "Long.bitCount",
            "System.arraycopy", "Arrays.fill");
        Matcher m = Pattern.compile("\\b(Math|Integer|Long|System|Arrays|String|Character|Boolean)\\.(\\w+)").matcher(code);
        while (m.find()) {
            Tests.due(m.group() + " is listed", listed.contains(m.group()), true);
        }
        m = Pattern.compile("import ([\\w.]+)").matcher(code);
        while (m.find()) {
            Tests.due("import of " + m.group(1), m.group(1).equals("java.util.Arrays"), true);
        }
    }

    /** All rows are made with the object, so no call adds to what a run makes. */
    private static void makesNothingLater(String code) {
        for (String line : code.split("\n")) {
            if (Pattern.compile("\\bnew\\b").matcher(line).find()) {
                boolean field = line.matches(" +private final [\\w\\[\\]]+ \\w+ = new \\w+\\[.*\\];");
                boolean part = line.matches("        \\w+ = new [A-Z]\\w+\\([a-z, ]*\\);");
                Tests.due("made with the object: " + line.strip(), field || part, true);
            }
        }
    }

    private static void methods(List<String> lines) {
        int start = -1;
        for (int i = 0; i < lines.size(); i++) {
            String line = lines.get(i);
            if (line.matches("( {4}| {8})[\\w<].*\\) \\{")) {
                start = i;
            }
            if (start >= 0 && line.matches("( {4}| {8})\\}") && line.indexOf('}') == indent(lines.get(start))) {
                Tests.due("at most sixty lines: " + lines.get(start).strip(), i - start < 60, true);
                start = -1;
            }
            Tests.due("at most 120 signs a line: " + line, line.length() <= 120, true);
        }
    }

    private static int indent(String line) {
        return line.length() - line.stripLeading().length();
    }
}
