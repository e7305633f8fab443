/** What the tests share: comparing answers, and writing texts and words as letters. */
final class Tests {
    static final int NONE = PennyBooks.NONE;

    private static int asked = 0;
    private static int wrong = 0;

    private Tests() {
    }

    static void due(String call, long got, long want) {
        asked++;
        if (got != want) {
            wrong++;
            System.out.println(call + " answered " + got + ", due is " + want);
        }
    }

    static void due(String call, boolean got, boolean want) {
        due(call, got ? 1 : 0, want ? 1 : 0);
    }

    /** The answer of a call just made on x, and its STATUS. */
    static void due(PennyBooks x, String call, long got, long want, int status) {
        due(call, got, want);
        due(call + " status", x.status(), status);
    }

    static void due(PennyBooks x, String call, boolean got, int status) {
        due(call, got, status == 0);
        due(call + " status", x.status(), status);
    }

    static void fraction(PennyBooks x, String call, int got, long top, long bottom) {
        due(x, call, got, Long.signum(top), 0);
        due(call + " top", x.top(), top);
        due(call + " bottom", x.bottom(), bottom);
    }

    static void end() {
        System.out.println(asked + " answers asked, " + wrong + " wrong");
        if (wrong != 0) {
            System.exit(1);
        }
    }

    static long word(String letters) {
        long word = 0;
        for (int i = 0; i < letters.length(); i++) {
            word = word << 5 | letters.charAt(i) - 'a' + 1;
        }
        return word;
    }

    /** Puts a text on the tape, with bytes of 0 behind it up to a whole feed. */
    static void feed(PennyBooks x, String text) {
        for (int at = 0; at < text.length(); at += 20) {
            x.feed(four(text, at), four(text, at + 4), four(text, at + 8), four(text, at + 12), four(text, at + 16));
        }
    }

    private static int four(String text, int at) {
        int four = 0;
        for (int i = at; i < at + 4; i++) {
            four = four << 8 | (i < text.length() ? text.charAt(i) & 255 : 0);
        }
        return four;
    }

    static int edition(PennyBooks x, String text) {
        feed(x, text);
        return x.edition(text.length());
    }

    /** A LINE that went, with the word given, in HAND 0, at SHOP 0, known from day 0. */
    static int went(PennyBooks x, int family, int week, int pence, String word) {
        x.words(word(word), 0, 0);
        return x.line(family, week, 0, pence, false, 0, 0);
    }

    static int came(PennyBooks x, int family, int week, int pence, String word) {
        x.words(word(word), 0, 0);
        return x.line(family, week, 0, pence, true, 0, 0);
    }
}
