/** Promises 20 to 24. */
public final class SumTest {
    public static void main(String[] args) {
        spent();
        told();
        exchanges();
        carries();
        rivals();
        limits();
        slipStatus();
        Tests.end();
    }

    private static void spent() {
        PennyBooks x = new PennyBooks();
        x.family(0, 0);
        x.family(0, 0);
        int e = Tests.edition(x, "if word tea then kind 1; if word beer then kind 15;");
        Tests.went(x, 0, 5, 100, "tea");
        Tests.went(x, 0, 5, 30, "tea");
        Tests.went(x, 0, 5, 7, "pie");
        Tests.came(x, 0, 5, 1000, "tea");
        Tests.went(x, 0, 6, 11, "tea");
        Tests.went(x, 1, 5, 12, "tea");
        Tests.went(x, 0, 5, 2, "beer");
        Tests.due(x, "kind 1", x.spent(0, 5, 1, e), 130, 0);
        Tests.due(x, "sundries", x.spent(0, 5, 0, e), 7, 0);
        Tests.due(x, "kind 15", x.spent(0, 5, 15, e), 2, 0);
        Tests.due(x, "kind 2", x.spent(0, 5, 2, e), 0, 0);
        Tests.due(x, "all", x.spent(0, 5, Tests.NONE, e), 139, 0);
        Tests.due(x, "week 6", x.spent(0, 6, Tests.NONE, e), 11, 0);
        Tests.due(x, "family 1", x.spent(1, 5, Tests.NONE, e), 12, 0);
        Tests.due(x, "an empty week", x.spent(1, 519, Tests.NONE, e), 0, 0);
        Tests.due(x, "family 2", x.spent(2, 5, 0, e), -1, 1);
        Tests.due(x, "family -1", x.spent(-1, 5, 0, e), -1, 1);
        Tests.due(x, "week -1", x.spent(0, -1, 0, e), -1, 1);
        Tests.due(x, "week 520", x.spent(0, 520, 0, e), -1, 1);
        Tests.due(x, "kind -2", x.spent(0, 5, -2, e), -1, 1);
        Tests.due(x, "kind 16", x.spent(0, 5, 16, e), -1, 1);
        Tests.due(x, "no edition, though all", x.spent(0, 5, Tests.NONE, e + 1), -1, 1);
        x.reading(0, 101, 3);
        Tests.due(x, "as read", x.spent(0, 5, 1, e), 131, 0);
        x.asof(2);
        Tests.due(x, "as read by then", x.spent(0, 5, 1, e), 130, 0);
    }

    private static void told() {
        PennyBooks x = new PennyBooks();
        x.family(0, 0);
        Tests.went(x, 0, 5, 100, "tea");
        Tests.due(x, "family 1", x.told(1, 5, 0), 1);
        Tests.due(x, "week 520", x.told(0, 520, 0), 1);
        Tests.due(x, "week -1", x.told(0, -1, 0), 1);
        Tests.due(x, "sum -1", x.told(0, 5, -1), 1);
        Tests.due(x, "sum too great", x.told(0, 5, 1000001), 1);
        Tests.due(x, "nothing told", x.out(0, 5), -1, 6);
        Tests.due(x, "told", x.told(0, 5, 99), 0);
        Tests.due(x, "out by -1", x.out(0, 5), -1, 0);
        Tests.due(x, "told anew", x.told(0, 5, 1000000), 0);
        Tests.due(x, "out", x.out(0, 5), 999900, 0);
        Tests.due(x, "told 0", x.told(0, 5, 0), 0);
        Tests.due(x, "out", x.out(0, 5), -100, 0);
        Tests.due(x, "no family", x.out(1, 5), -1, 1);
        Tests.due(x, "no week", x.out(0, 520), -1, 1);
        for (int i = 0; i < 39; i++) {
            Tests.due(x, "told", x.told(0, 100 + i, i), 0);
        }
        Tests.due(x, "a 41st", x.told(0, 200, 0), 4);
        Tests.due(x, "1 ahead of 4", x.told(0, 200, -1), 1);
        Tests.due(x, "anew is no other", x.told(0, 138, 7), 0);
        Tests.due(x, "out", x.out(0, 138), 7, 0);
        Tests.due(x, "not told", x.out(0, 200), -1, 6);
    }

    /** One LINE of so many pence, told as so many. */
    private static PennyBooks one(int pence, int told) {
        PennyBooks x = new PennyBooks();
        x.family(0, 0);
        Tests.went(x, 0, 5, pence, "tea");
        x.told(0, 5, told);
        return x;
    }

    private static void single(int pence, int told, int slip) {
        PennyBooks x = one(pence, told);
        String call = pence + " told as " + told;
        Tests.due(x, call, x.slips(0, 5, 0), slip == 0 ? 0 : 1, 0);
        Tests.due(x, call + ": slip", x.slip(0), slip, 0);
        Tests.due(x, call + ": carry", x.slips(0, 5, 2), 0, 0);
    }

    private static void exchanges() {
        single(12345, 12345, 0);
        single(12345, 0, 1);
        single(12345, 24690, 2);
        single(12345, 12354, 3);
        single(12345, 12435, 4);
        single(12345, 13245, 5);
        single(12345, 21345, 6);
        single(10, 1, 3);
        single(20000, 2000, 6);
        single(90, 9, 3);
        PennyBooks x = one(500, 5000);
        Tests.due(x, "no zeros ahead", x.slips(0, 5, 0), -1, 6);
        x = one(7, 70);
        Tests.due(x, "no zeros ahead", x.slips(0, 5, 0), -1, 6);
        x = one(11, 11);
        Tests.due(x, "like figures are no slip", x.slips(0, 5, 1), 1, 0);
    }

    private static void carries() {
        for (int c = -3; c <= 3; c++) {
            PennyBooks x = one(5000, 5000 + 12 * c);
            Tests.due(x, "carry " + c, x.slips(0, 5, 0), Math.abs(c), 0);
            Tests.due(x, "carry " + c, x.slips(0, 5, 1), 1, 0);
            Tests.due(x, "carry " + c, x.slips(0, 5, 2), c, 0);
            Tests.due(x, "carry " + c, x.slip(0), 0, 0);
        }
        PennyBooks x = one(5000, 5048);
        Tests.due(x, "four carries are too many", x.slips(0, 5, 0), -1, 6);
        x = new PennyBooks();
        x.family(0, 0);
        x.told(0, 7, 24);
        Tests.due(x, "a week without lines", x.slips(0, 7, 0), 2, 0);
        Tests.due(x, "its carry", x.slips(0, 7, 2), 2, 0);
        x = one(5000, 24);
        Tests.due(x, "left out and two carries", x.slips(0, 5, 0), 3, 0);
        Tests.due(x, "left out", x.slip(0), 1, 0);
        Tests.due(x, "two carries", x.slips(0, 5, 2), 2, 0);
    }

    private static void rivals() {
        PennyBooks x = new PennyBooks();
        x.family(0, 0);
        Tests.went(x, 0, 5, 12, "tea");
        Tests.came(x, 0, 5, 12, "wage");
        Tests.went(x, 0, 5, 12, "pie");
        x.told(0, 5, 12);
        // Out by -12: either line left out, or a carry of -1.
        Tests.due(x, "fewest", x.slips(0, 5, 0), 1, 0);
        Tests.due(x, "rivals", x.slips(0, 5, 1), 3, 0);
        Tests.due(x, "the first has the lesser lines", x.slip(0), 0, 0);
        Tests.due(x, "and then the carry", x.slips(0, 5, 2), -1, 0);
        x.told(0, 5, 24 + 9);
        Tests.due(x, "an exchange", x.slips(0, 5, 1), 2, 0);
        Tests.due(x, "of the later line first", x.slip(2), 3, 0);
        Tests.due(x, "not the earlier", x.slip(0), 0, 0);
        x.told(0, 5, 0);
        // Out by -24, two slips: both out; one out (two ways) and a carry; two carries.
        Tests.due(x, "two slips", x.slips(0, 5, 0), 2, 0);
        Tests.due(x, "four ways", x.slips(0, 5, 1), 4, 0);
        Tests.due(x, "two carries first", x.slips(0, 5, 2), -2, 0);
        x.reading(0, 13, 4);
        x.told(0, 5, 25 + 27);
        // Pence 13 (13 more, 18 more) and 12 (12 more, 9 more): 27 is 18 + 9.
        Tests.due(x, "two exchanges", x.slips(0, 5, 0), 2, 0);
        Tests.due(x, "one way", x.slips(0, 5, 1), 1, 0);
        Tests.due(x, "of line 0", x.slip(0), 3, 0);
        Tests.due(x, "of line 2", x.slip(2), 3, 0);
    }

    private static void limits() {
        PennyBooks x = new PennyBooks();
        x.family(0, 0);
        x.family(0, 0);
        x.words(1, 0, 0);
        for (int i = 0; i < 9; i++) {
            Tests.went(x, 0, 5, 1000, "tea");
        }
        Tests.came(x, 0, 5, 1000, "wage");
        Tests.went(x, 0, 6, 1000, "tea");
        Tests.went(x, 1, 5, 1000, "tea");
        x.told(0, 5, 6000);
        Tests.due(x, "nine lines", x.slips(0, 5, 0), 3, 0);
        Tests.due(x, "84 ways to leave out three", x.slips(0, 5, 1), 84, 0);
        Tests.due(x, "the first leaves out the last", x.slip(8), 1, 0);
        Tests.due(x, "but not these", x.slip(5), 0, 0);
        x.told(0, 5, 5000);
        Tests.due(x, "four are too many", x.slips(0, 5, 0), -1, 6);
        Tests.due(x, "four are too many", x.slip(0), -1, 6);
        x.told(0, 5, 9000);
        x.words(1, 0, 0);
        x.line(0, 5, 0, 1, false, 0, 3);
        Tests.due(x, "ten lines", x.slips(0, 5, 0), -1, 6);
        Tests.due(x, "ten lines", x.slip(0), -1, 6);
        x.asof(2);
        Tests.due(x, "nine as known", x.slips(0, 5, 0), 0, 0);
        Tests.due(x, "nine as known", x.slip(0), 0, 0);
    }

    private static void slipStatus() {
        PennyBooks x = new PennyBooks();
        x.family(0, 0);
        Tests.went(x, 0, 5, 100, "tea");
        Tests.came(x, 0, 5, 100, "wage");
        x.words(1, 0, 0);
        x.line(0, 5, 0, 50, false, 0, 9);
        Tests.due(x, "nothing told", x.slips(0, 5, 0), -1, 6);
        Tests.due(x, "nothing told", x.slip(0), -1, 6);
        x.told(0, 5, 150);
        Tests.due(x, "what 3", x.slips(0, 5, 3), -1, 1);
        Tests.due(x, "what -1", x.slips(0, 5, -1), -1, 1);
        Tests.due(x, "family 1", x.slips(1, 5, 0), -1, 1);
        Tests.due(x, "week 520", x.slips(0, 520, 0), -1, 1);
        Tests.due(x, "1 ahead of 6", x.slips(0, 6, 3), -1, 1);
        Tests.due(x, "line 3", x.slip(3), -1, 1);
        Tests.due(x, "line -1", x.slip(-1), -1, 1);
        Tests.due(x, "it came", x.slip(1), -1, 6);
        Tests.due(x, "as told", x.slip(2), 0, 0);
        x.asof(8);
        Tests.due(x, "not known", x.slip(2), -1, 6);
        Tests.due(x, "out as known", x.out(0, 5), 50, 0);
        Tests.due(x, "nothing explains 50 more", x.slips(0, 5, 0), -1, 6);
    }
}
