import java.util.ArrayList;
import java.util.List;

/** A TEXT of an EDITION read by descent, each part of the grammar a method, into a tree that is asked later. */
final class PlainText {
    record Token(String text, int at) { }

    interface Number {
        long of(PlainBooks.Line line, int pence);
    }

    interface Test {
        boolean holds(PlainBooks.Line line, int pence);
    }

    record Rule(Test test, Number kind, Number units) { }

    static final class Fault extends RuntimeException {
        private static final long serialVersionUID = 1;
        final int kind;
        final int place;

        Fault(int kind, int place) {
            this.kind = kind;
            this.place = place;
        }
    }

    int fault = 0;
    int place = -1;
    final List<Rule> rules = new ArrayList<>();
    private final String text;
    private int at = 0;

    PlainText(String text) {
        this.text = text;
        try {
            while (!peek().text.isEmpty()) {
                rule();
            }
        } catch (Fault f) {
            fault = f.kind;
            place = f.place;
        }
    }

    PlainBooks.Verdict judge(PlainBooks.Line line, int pence) {
        for (int i = 0; i < rules.size(); i++) {
            Rule r = rules.get(i);
            if (r.test.holds(line, pence)) {
                long kind = r.kind.of(line, pence);
                long units = r.units.of(line, pence);
                return new PlainBooks.Verdict(cut(kind, 0, 15), cut(units, 1, 1000), i);
            }
        }
        return new PlainBooks.Verdict(0, 1, -1);
    }

    private static int cut(long v, int a, int b) {
        return v < a ? a : v > b ? b : (int) v;
    }

    /** The next TOKEN, by patterns; an empty one at the end. */
    private Token peek() {
        int from = at;
        while (from < text.length() && (text.charAt(from) == ' ' || text.charAt(from) == '\n')) {
            from++;
        }
        if (from == text.length()) {
            return new Token("", from);
        }
        String rest = text.substring(from);
        java.util.regex.Matcher m = java.util.regex.Pattern.compile("[a-z]+|[0-9]+|[;<>=+\\-*/()]").matcher(rest);
        if (!m.lookingAt() || m.group().matches("[0-9]{6,}")) {
            throw new Fault(1, from);
        }
        return new Token(m.group(), from);
    }

    private Token next() {
        Token t = peek();
        at = t.at + t.text.length();
        return t;
    }

    private boolean meets(String... texts) {
        return List.of(texts).contains(peek().text);
    }

    private void must(String word) {
        if (!meets(word)) {
            throw new Fault(2, peek().at);
        }
        next();
    }

    private void rule() {
        if (meets("if") && rules.size() == 30) {
            throw new Fault(4, peek().at);
        }
        must("if");
        Test test = test();
        must("then");
        must("kind");
        Number kind = sum(0);
        Number units = (l, p) -> 1;
        if (meets("units")) {
            next();
            units = sum(0);
        }
        must(";");
        rules.add(new Rule(test, kind, units));
    }

    private Test test() {
        Test left = part();
        while (meets("or")) {
            next();
            Test a = left;
            Test b = part();
            left = (l, p) -> a.holds(l, p) || b.holds(l, p);
        }
        return left;
    }

    private Test part() {
        Test left = one();
        while (meets("and")) {
            next();
            Test a = left;
            Test b = one();
            left = (l, p) -> a.holds(l, p) && b.holds(l, p);
        }
        return left;
    }

    private Test one() {
        if (meets("not")) {
            next();
            Test bare = bare();
            return (l, p) -> !bare.holds(l, p);
        }
        return bare();
    }

    private Test bare() {
        if (meets("came")) {
            next();
            return (l, p) -> l.came();
        }
        if (meets("word")) {
            next();
            Token name = peek();
            if (!name.text.matches("[a-z]+")) {
                throw new Fault(2, name.at);
            }
            if (name.text.length() > 8) {
                throw new Fault(3, name.at);
            }
            next();
            return (l, p) -> l.words().contains(Tests.word(name.text));
        }
        Number a = sum(0);
        if (!meets("<", ">", "=")) {
            throw new Fault(2, peek().at);
        }
        String sign = next().text;
        Number b = sum(0);
        return (l, p) -> {
            int c = Long.compare(a.of(l, p), b.of(l, p));
            return sign.equals("<") ? c < 0 : sign.equals(">") ? c > 0 : c == 0;
        };
    }

    private Number sum(int depth) {
        Number left = item(depth);
        while (meets("+", "-")) {
            boolean more = next().text.equals("+");
            Number a = left;
            Number b = item(depth);
            left = (l, p) -> more ? a.of(l, p) + b.of(l, p) : a.of(l, p) - b.of(l, p);
        }
        return left;
    }

    private Number item(int depth) {
        Number left = atom(depth);
        while (meets("*", "/")) {
            boolean times = next().text.equals("*");
            Number a = left;
            Number b = atom(depth);
            left = (l, p) -> {
                long right = b.of(l, p);
                return times ? a.of(l, p) * right : right == 0 ? 0 : a.of(l, p) / right;
            };
        }
        return left;
    }

    private Number atom(int depth) {
        Token t = peek();
        if (t.text.equals("(")) {
            if (depth == 6) {
                throw new Fault(5, t.at);
            }
            next();
            Number inner = sum(depth + 1);
            must(")");
            return inner;
        }
        if (t.text.matches("[0-9]+")) {
            next();
            long number = Long.parseLong(t.text);
            return (l, p) -> number;
        }
        if (!meets("pence", "week", "year", "shop")) {
            throw new Fault(2, t.at);
        }
        next();
        return switch (t.text) {
            case "pence" -> (l, p) -> p;
            case "week" -> (l, p) -> l.week();
            case "year" -> (l, p) -> l.week() / 52;
            default -> (l, p) -> l.shop();
        };
    }
}
