/** Promises 25 to 27. */
public final class SundriesTest {
    private static final String KINDS = "if word tea then kind 1 units shop; if word pie then kind 2;"
        + " if word beer then kind 15 units shop;";

    public static void main(String[] args) {
        rules();
        ways();
        whichLines();
        nearest();
        most();
        status();
        greatCount();
        Tests.end();
    }

    private static int line(PennyBooks x, int week, int pence, int units, String word) {
        x.words(Tests.word(word), 0, 0);
        return x.line(0, week, units, pence, false, 0, 0);
    }

    private static PennyBooks desk() {
        PennyBooks x = new PennyBooks();
        x.family(0, 0);
        Tests.edition(x, KINDS);
        return x;
    }

    private static void span(PennyBooks x, int line, int kind, int fewest, int greatest) {
        Tests.due(x, "fewest of " + kind, x.span(line, 0, kind, 0), fewest, fewest == -1 ? 6 : 0);
        Tests.due(x, "most of " + kind, x.span(line, 0, kind, 1), greatest, fewest == -1 ? 6 : 0);
    }

    private static void rules() {
        PennyBooks x = new PennyBooks();
        Tests.due(x, "near 0", x.rules(0, 1), 1);
        Tests.due(x, "near 61", x.rules(61, 1), 1);
        Tests.due(x, "shut 0", x.rules(1, 0), 1);
        Tests.due(x, "shut 13", x.rules(1, 13), 1);
        Tests.due(x, "least", x.rules(1, 1), 0);
        Tests.due(x, "most", x.rules(60, 12), 0);
    }

    private static void ways() {
        PennyBooks x = desk();
        int mixed = line(x, 100, 30, 0, "misc");
        Tests.due(x, "no things", x.ways(mixed, 0), 0, 0);
        span(x, mixed, 1, -1, -1);
        line(x, 99, 15, 5, "tea");
        line(x, 101, 4, 0, "pie");
        // Tea at 3, up to 5 of it; pie at 4, up to 1: 30 can't be, 15 + 4 is the most.
        Tests.due(x, "too few things", x.ways(mixed, 0), 0, 0);
        span(x, mixed, 1, -1, -1);
        x.reading(mixed, 19, 1);
        Tests.due(x, "all of them", x.ways(mixed, 0), 1, 0);
        span(x, mixed, 1, 5, 5);
        span(x, mixed, 2, 1, 1);
        span(x, mixed, 3, -1, -1);
        x.reading(mixed, 12, 2);
        Tests.due(x, "four teas", x.ways(mixed, 0), 1, 0);
        span(x, mixed, 1, 4, 4);
        span(x, mixed, 2, 0, 0);
        for (int i = 0; i < 3; i++) {
            x.words(Tests.word("pie"), 0, 0);
            x.line(0, 101, 0, 4, false, 0, 2);
        }
        // Now four pies: 12 is 4 teas, or 3 pies.
        Tests.due(x, "two ways", x.ways(mixed, 0), 2, 0);
        span(x, mixed, 1, 0, 4);
        span(x, mixed, 2, 0, 3);
        x.asof(1);
        Tests.due(x, "as known", x.ways(mixed, 0), 1, 0);
    }

    private static void whichLines() {
        PennyBooks x = desk();
        x.family(0, 0);
        int mixed = line(x, 100, 6, 0, "misc");
        line(x, 100, 3, 0, "pie");
        Tests.due(x, "not of its own week", x.ways(mixed, 0), 0, 0);
        line(x, 89, 3, 0, "pie");
        line(x, 111, 3, 0, "pie");
        Tests.due(x, "not 11 weeks away", x.ways(mixed, 0), 0, 0);
        span(x, mixed, 2, -1, -1);
        x.reading(mixed, 3, 0);
        Tests.due(x, "not 11 weeks away, at first", x.ways(mixed, 0), 0, 0);
        x.reading(mixed, 6, 0);
        x.words(Tests.word("pie"), 0, 0);
        x.line(0, 99, 0, 3, true, 0, 0);
        x.words(Tests.word("pie"), 0, 0);
        x.line(1, 99, 0, 3, false, 0, 0);
        line(x, 99, 6, 0, "misc");
        Tests.due(x, "not what came, of others, or sundries", x.ways(mixed, 0), 0, 0);
        x.reading(mixed, 3, 0);
        Tests.due(x, "not what came, of others, or sundries", x.ways(mixed, 0), 0, 0);
        x.reading(mixed, 6, 0);
        span(x, mixed, 2, -1, -1);
        x.rules(11, 3);
        Tests.due(x, "11 weeks away, but one at most", x.ways(mixed, 0), 0, 0);
        line(x, 89, 3, 0, "pie");
        Tests.due(x, "two in one week", x.ways(mixed, 0), 1, 0);
        span(x, mixed, 2, 2, 2);
        x.rules(10, 3);
        line(x, 110, 6, 0, "pie");
        Tests.due(x, "10 weeks away", x.ways(mixed, 0), 1, 0);
        span(x, mixed, 2, 1, 1);
    }

    private static void nearest() {
        PennyBooks x = desk();
        int mixed = line(x, 100, 20, 0, "misc");
        line(x, 103, 7, 9, "beer");
        Tests.due(x, "1 at least: nine at 1", x.ways(mixed, 0), 0, 0);
        x.reading(mixed, 9, 0);
        span(x, mixed, 15, 9, 9);
        x.reading(mixed, 20, 0);
        line(x, 102, 21, 2, "beer");
        // 21 by 2 is 10, rounded down.
        span(x, mixed, 15, 2, 2);
        line(x, 98, 10, 2, "beer");
        span(x, mixed, 15, 4, 4);
        line(x, 98, 4, 1, "beer");
        span(x, mixed, 15, 4, 4);
        line(x, 102, 2, 1, "beer");
        span(x, mixed, 15, 4, 4);
        line(x, 101, 20, 1, "beer");
        span(x, mixed, 15, 1, 1);
    }

    private static void most() {
        PennyBooks x = desk();
        int mixed = line(x, 100, 20, 0, "misc");
        line(x, 99, 9, 9, "tea");
        line(x, 101, 9, 9, "tea");
        Tests.due(x, "weeks are not summed", x.ways(mixed, 0), 0, 0);
        line(x, 99, 9, 9, "tea");
        line(x, 99, 1, 1, "tea");
        Tests.due(x, "19 in one week", x.ways(mixed, 0), 0, 0);
        line(x, 99, 2, 2, "tea");
        Tests.due(x, "20", x.ways(mixed, 0), 1, 0);
        span(x, mixed, 1, 20, 20);
        x.reading(mixed, 21, 0);
        Tests.due(x, "20 at most", x.ways(mixed, 0), 0, 0);
    }

    private static void status() {
        PennyBooks x = desk();
        int mixed = line(x, 100, 2000, 0, "misc");
        int tea = line(x, 99, 200, 9, "tea");
        int dear = line(x, 100, 2001, 0, "misc");
        x.words(Tests.word("misc"), 0, 0);
        int wage = x.line(0, 100, 0, 5, true, 0, 0);
        x.words(Tests.word("misc"), 0, 0);
        int late = x.line(0, 100, 0, 5, false, 0, 9);
        Tests.due(x, "2000", x.ways(mixed, 0), 0, 0);
        Tests.due(x, "another kind", x.ways(tea, 0), -1, 6);
        Tests.due(x, "more pence", x.ways(dear, 0), -1, 6);
        Tests.due(x, "it came", x.ways(wage, 0), -1, 6);
        x.asof(8);
        Tests.due(x, "not known", x.ways(late, 0), -1, 6);
        Tests.due(x, "not known", x.span(late, 0, 1, 0), -1, 6);
        Tests.due(x, "another kind", x.span(tea, 0, 1, 0), -1, 6);
        Tests.due(x, "more pence", x.span(dear, 0, 1, 0), -1, 6);
        Tests.due(x, "it came", x.span(wage, 0, 1, 0), -1, 6);
        Tests.due(x, "no line", x.ways(5, 0), -1, 1);
        Tests.due(x, "no line", x.ways(-1, 0), -1, 1);
        Tests.due(x, "no edition", x.ways(mixed, 1), -1, 1);
        Tests.due(x, "no edition", x.ways(mixed, -1), -1, 1);
        Tests.due(x, "no line", x.span(5, 0, 1, 0), -1, 1);
        Tests.due(x, "no edition", x.span(mixed, 1, 1, 0), -1, 1);
        Tests.due(x, "kind 0", x.span(mixed, 0, 0, 0), -1, 1);
        Tests.due(x, "kind 16", x.span(mixed, 0, 16, 0), -1, 1);
        Tests.due(x, "what -1", x.span(mixed, 0, 1, -1), -1, 1);
        Tests.due(x, "what 2", x.span(mixed, 0, 1, 2), -1, 1);
        Tests.due(x, "1 ahead of 6", x.span(tea, 0, 1, 2), -1, 1);
    }

    /** Fifteen things at 1, 20 of each: the middle coefficient of (1 + .. + x^20)^15. */
    private static void greatCount() {
        PennyBooks x = new PennyBooks();
        x.family(0, 0);
        Tests.edition(x, "if pence < 16 then kind pence units 20;");
        x.words(1, 0, 0);
        int mixed = x.line(0, 100, 0, 150, false, 0, 0);
        for (int kind = 1; kind <= 15; kind++) {
            x.words(1, 0, 0);
            x.line(0, 100 + kind % 2 * 2 - 1, 0, kind, false, 0, 0);
        }
        long[] counts = new long[301];
        counts[0] = 1;
        for (int kind = 1; kind <= 15; kind++) {
            long[] next = new long[301];
            for (int sum = 0; sum <= 300; sum++) {
                for (int many = 0; many <= 20 && many <= sum; many++) {
                    next[sum] += counts[sum - many];
                }
            }
            counts = next;
        }
        Tests.due(x, "more than 10 to the 18th", x.ways(mixed, 0), counts[150], 0);
        Tests.due("it is so many", counts[150] > 1000000000000000000L, true);
        span(x, mixed, 7, 0, 20);
        x.reading(mixed, 295, 0);
        span(x, mixed, 7, 15, 20);
        x.reading(mixed, 301, 0);
        Tests.due(x, "one more than all", x.ways(mixed, 0), 0, 0);
        span(x, mixed, 7, -1, -1);
    }
}
