import java.util.Random;

/** Texts of EDITIONS by the grammar, some of them spoiled in a place. */
final class RandomTexts {
    static final String[] NAMES = {"tea", "pie", "beer", "misc", "if", "aaaaaaaa"};

    private final Random random;
    private StringBuilder text;

    RandomTexts(Random random) {
        this.random = random;
    }

    String next() {
        text = new StringBuilder();
        int rules = random.nextInt(12) == 0 ? 29 + random.nextInt(3) : random.nextInt(6);
        for (int i = 0; i < rules; i++) {
            rule(rules > 6);
        }
        if (random.nextInt(3) == 0) {
            spoil();
        }
        return text.length() > 600 ? text.substring(0, 600) : text.toString();
    }

    private void put(String token) {
        boolean letters = Character.isLetterOrDigit(token.charAt(0));
        int last = text.length() == 0 ? ' ' : text.charAt(text.length() - 1);
        boolean join = letters && Character.isLetterOrDigit(last);
        boolean apart = join && Character.isDigit(last) == Character.isDigit(token.charAt(0));
        if (apart || random.nextInt(4) == 0) {
            text.append(random.nextInt(5) == 0 ? "\n" : " ");
        }
        text.append(token);
    }

    private void rule(boolean brief) {
        put("if");
        one(brief ? 0 : 1);
        while (!brief && random.nextInt(3) == 0) {
            put(random.nextBoolean() ? "and" : "or");
            one(1);
        }
        put("then");
        put("kind");
        sum(brief ? 0 : 1);
        if (!brief && random.nextBoolean()) {
            put("units");
            sum(1);
        }
        put(";");
    }

    private void one(int size) {
        if (size > 0 && random.nextInt(3) == 0) {
            put("not");
        }
        int what = size == 0 ? 1 : random.nextInt(5);
        if (what == 0) {
            put("word");
            put(NAMES[random.nextInt(NAMES.length)]);
        } else if (what == 1) {
            put("came");
        } else {
            sum(size);
            put("<>=".substring(random.nextInt(3)).substring(0, 1));
            sum(size);
        }
    }

    private void sum(int size) {
        atom(size);
        while (size > 0 && random.nextInt(3) == 0) {
            put("+-*/".substring(random.nextInt(4)).substring(0, 1));
            atom(size);
        }
    }

    private void atom(int size) {
        int what = random.nextInt(size > 0 ? 8 : 5);
        if (what < 2) {
            put(Integer.toString(random.nextInt(random.nextInt(8) == 0 ? 100000 : 21)));
        } else if (what < 5) {
            put(new String[] {"pence", "week", "year", "shop"}[random.nextInt(4)]);
        } else {
            int deep = random.nextInt(12) == 0 ? 1 + random.nextInt(7) : 1;
            for (int i = 0; i < deep; i++) {
                put("(");
            }
            sum(random.nextInt(3) == 0 ? 1 : 0);
            for (int i = 0; i < deep; i++) {
                put(")");
            }
        }
    }

    private void spoil() {
        if (text.length() == 0) {
            text.append(' ');
        }
        int at = random.nextInt(text.length());
        switch (random.nextInt(6)) {
            case 0 -> text.deleteCharAt(at);
            case 1 -> text.insert(at, (char) random.nextInt(256));
            case 2 -> text.setCharAt(at, ";<>=+-*/() \nabk1".charAt(random.nextInt(16)));
            case 3 -> text.setLength(at);
            case 4 -> text.insert(at, new String[] {" not ", " if ", "((((((", " abcdefghi ", " 123456 "}[random.nextInt(5)]);
            default -> text.insert(at, " word units ");
        }
    }
}
