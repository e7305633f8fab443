/** Promises 9 to 14. */
public final class LineTest {
    private static final long A = 1;

    public static void main(String[] args) {
        families();
        words();
        lines();
        wrongLines();
        tooMany();
        readings();
        asOf();
        Tests.end();
    }

    private static void families() {
        PennyBooks x = new PennyBooks();
        Tests.due(x, "class -1", x.family(-1, 0), -1, 1);
        Tests.due(x, "class 4", x.family(4, 0), -1, 1);
        Tests.due(x, "land -1", x.family(0, -1), -1, 1);
        Tests.due(x, "land 4", x.family(0, 4), -1, 1);
        for (int i = 0; i < 12; i++) {
            Tests.due(x, "family", x.family(i % 4, 3 - i % 4), i, 0);
        }
        Tests.due(x, "a 13th", x.family(0, 0), -1, 4);
        Tests.due(x, "1 ahead of 4", x.family(4, 0), -1, 1);
        Tests.due(x, "the last one", x.gaps(11), 0, 0);
        Tests.due(x, "no more", x.gaps(12), -1, 1);
    }

    private static void words() {
        PennyBooks x = new PennyBooks();
        Tests.due(x, "none", x.words(0, 0, 0), 1);
        Tests.due(x, "no first", x.words(0, A, 0), 1);
        Tests.due(x, "no second", x.words(A, 0, A), 1);
        Tests.due(x, "one", x.words(A, 0, 0), 0);
        Tests.due(x, "two", x.words(A, 26, 0), 0);
        Tests.due(x, "three", x.words(A, A, Tests.word("zzzzzzzz")), 0);
        Tests.due(x, "letter 27", x.words(27, 0, 0), 1);
        Tests.due(x, "letter 27 in the second", x.words(A, 27, 0), 1);
        Tests.due(x, "letter 27 in the third", x.words(A, A, 27 << 5 | 1), 1);
        Tests.due(x, "letter 0 within", x.words(32, 0, 0), 1);
        Tests.due(x, "letter 0 within", x.words(1 << 10 | 1, 0, 0), 1);
        Tests.due(x, "nine letters", x.words(Tests.word("aaaaaaaaa"), 0, 0), 1);
        Tests.due(x, "below 0", x.words(-1, 0, 0), 1);
        Tests.due(x, "below 0", x.words(Long.MIN_VALUE | 1, 0, 0), 1);
        Tests.due(x, "a bit above eight letters", x.words(1L << 40 | Tests.word("aaaaaaaa"), 0, 0), 1);
    }

    private static void lines() {
        PennyBooks x = new PennyBooks();
        x.family(0, 0);
        Tests.due(x, "no words told", x.line(0, 0, 0, 1, false, 0, 0), -1, 6);
        x.words(Tests.word("tea"), Tests.word("milk"), Tests.word("pie"));
        x.words(0, 0, 0);
        Tests.due(x, "words stay when others are refused", x.line(0, 519, 9, 20000, true, 7, 0), 0, 0);
        Tests.due(x, "words are gone", x.line(0, 519, 9, 20000, true, 7, 0), -1, 6);
        int e = Tests.edition(x, "if word pie and word milk and word tea and came and shop=9 and pence=20000"
            + " and week=519 and year=9 then kind 1; if word beer then kind 2;");
        Tests.due(x, "all of it is kept", x.kind(0, e, 0), 1, 0);
        x.words(A, A, A);
        x.words(Tests.word("beer"), 0, 0);
        x.line(0, 0, 0, 1, false, 0, 0);
        Tests.due(x, "the words told last", x.kind(1, e, 0), 2, 0);
    }

    private static void wrongLines() {
        PennyBooks x = new PennyBooks();
        x.family(0, 0);
        x.words(A, 0, 0);
        Tests.due(x, "family 1", x.line(1, 0, 0, 1, false, 0, 0), -1, 1);
        Tests.due(x, "family -1", x.line(-1, 0, 0, 1, false, 0, 0), -1, 1);
        Tests.due(x, "week -1", x.line(0, -1, 0, 1, false, 0, 0), -1, 1);
        Tests.due(x, "week 520", x.line(0, 520, 0, 1, false, 0, 0), -1, 1);
        Tests.due(x, "shop -1", x.line(0, 0, -1, 1, false, 0, 0), -1, 1);
        Tests.due(x, "shop 10", x.line(0, 0, 10, 1, false, 0, 0), -1, 1);
        Tests.due(x, "pence 0", x.line(0, 0, 0, 0, false, 0, 0), -1, 1);
        Tests.due(x, "pence 20001", x.line(0, 0, 0, 20001, false, 0, 0), -1, 1);
        Tests.due(x, "hand -1", x.line(0, 0, 0, 1, false, -1, 0), -1, 1);
        Tests.due(x, "hand 8", x.line(0, 0, 0, 1, false, 8, 0), -1, 1);
        Tests.due(x, "known -1", x.line(0, 0, 0, 1, false, 0, -1), -1, 1);
        Tests.due(x, "known 10000", x.line(0, 0, 0, 1, false, 0, 10000), -1, 1);
        Tests.due(x, "words still told", x.line(0, 0, 0, 1, false, 0, 5), 0, 0);
        Tests.due(x, "5 ahead of 6", x.line(0, 0, 0, 1, false, 0, 4), -1, 5);
        Tests.due(x, "1 ahead of 5", x.line(0, 0, 0, 0, false, 0, 4), -1, 1);
        x.words(A, 0, 0);
        Tests.due(x, "the same day", x.line(0, 0, 0, 1, false, 0, 5), 1, 0);
    }

    private static void tooMany() {
        PennyBooks x = new PennyBooks();
        x.family(0, 0);
        for (int i = 0; i < 200; i++) {
            x.words(A, 0, 0);
            Tests.due("line", x.line(0, i, 0, 1, false, 0, 9), i);
        }
        Tests.due(x, "a 201st, 4 ahead of 5 and 6", x.line(0, 0, 0, 1, false, 0, 8), -1, 4);
        Tests.due(x, "1 ahead of 4", x.line(0, 0, 0, 1, false, 0, -8), -1, 1);
        for (int i = 0; i < 60; i++) {
            Tests.due(x, "reading", x.reading(199, i + 2, 9), 0);
        }
        Tests.due(x, "a 61st, 4 ahead of 5", x.reading(199, 1, 8), 4);
        Tests.due(x, "the 60th stands", x.pence(199), 61, 0);
    }

    private static void readings() {
        PennyBooks x = new PennyBooks();
        x.family(0, 0);
        Tests.due(x, "no line", x.reading(0, 1, 0), 1);
        x.words(A, 0, 0);
        x.line(0, 0, 0, 100, false, 0, 10);
        x.words(A, 0, 0);
        x.line(0, 0, 0, 200, false, 0, 20);
        Tests.due(x, "line 2", x.reading(2, 1, 20), 1);
        Tests.due(x, "line -1", x.reading(-1, 1, 20), 1);
        Tests.due(x, "pence 0", x.reading(0, 0, 20), 1);
        Tests.due(x, "pence 20001", x.reading(0, 20001, 20), 1);
        Tests.due(x, "known -1", x.reading(0, 1, -1), 1);
        Tests.due(x, "known 10000", x.reading(0, 1, 10000), 1);
        Tests.due(x, "a day that is gone", x.reading(0, 1, 19), 5);
        Tests.due(x, "as written", x.pence(0), 100, 0);
        Tests.due(x, "read", x.reading(0, 20000, 20), 0);
        Tests.due(x, "as read", x.pence(0), 20000, 0);
        Tests.due(x, "read again on that day", x.reading(0, 3, 20), 0);
        Tests.due(x, "the latest", x.pence(0), 3, 0);
        Tests.due(x, "the other stays", x.pence(1), 200, 0);
        x.reading(1, 4, 30);
        x.words(A, 0, 0);
        Tests.due(x, "lines and readings go on together", x.line(0, 0, 0, 1, false, 0, 29), -1, 5);
        Tests.due(x, "from the day on", x.line(0, 0, 0, 1, false, 0, 30), 2, 0);
    }

    private static void asOf() {
        PennyBooks x = new PennyBooks();
        x.family(0, 0);
        x.words(A, 0, 0);
        x.line(0, 0, 0, 100, false, 0, 10);
        x.reading(0, 200, 20);
        x.reading(0, 300, 20);
        x.reading(0, 400, 30);
        Tests.due(x, "day -1", x.asof(-1), 1);
        Tests.due(x, "day 10000", x.asof(10000), 1);
        Tests.due(x, "no line", x.pence(1), -1, 1);
        Tests.due(x, "no line", x.pence(-1), -1, 1);
        int[] days = {9, 10, 19, 20, 29, 30, 9999, 0};
        int[] pence = {-1, 100, 100, 300, 300, 400, 400, -1};
        for (int i = 0; i < days.length; i++) {
            Tests.due(x, "as of " + days[i], x.asof(days[i]), 0);
            Tests.due(x, "pence as of " + days[i], x.pence(0), pence[i], pence[i] == -1 ? 6 : 0);
        }
        Tests.due(x, "a reading of what is not known", x.reading(0, 500, 40), 0);
        x.asof(39);
        Tests.due(x, "not yet", x.pence(0), 400, 0);
        x.asof(40);
        Tests.due(x, "now", x.pence(0), 500, 0);
        x.words(A, 0, 0);
        Tests.due(x, "a line known later", x.line(0, 0, 0, 7, false, 0, 41), 1, 0);
        Tests.due(x, "is none such", x.pence(1), -1, 6);
    }
}
