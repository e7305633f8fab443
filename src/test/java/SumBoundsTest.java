/** Promises 20 to 24: each sentence that names a boundary, on both sides of it. */
public final class SumBoundsTest {
    public static void main(String[] args) {
        spentNumbers();
        spentCounts();
        spentOfManyLines();
        toldNumbers();
        toldAnew();
        atMost40Told();
        outNumbers();
        outIsToldLessSpent();
        nothingTold();
        atMostNineLines();
        leftOutOrTwice();
        figuresExchanged();
        likeFigures();
        withoutZerosAhead();
        carryFromMinus3To3();
        atMostThreeSlips();
        fewestFirst();
        rivalsCounted();
        theFirstByLines();
        theFirstByCarry();
        slipsNumbers();
        slipRefused();
        Tests.end();
    }

    private static void spentNumbers() {
        Edge.sentence("spent (1): FAMILY, WEEK, KIND (all: NONE), EDITION");
        Call call = Call.of("spent", 0, 100, 1, 0);
        Edge.range(Desks::rich, call, 0, 0, 3);
        Edge.range(Desks::rich, call, 1, 0, 519);
        Edge.range(Desks::rich, call, 2, -1, 15);
        Edge.range(Desks::rich, call, 3, 0, 1);
        Edge.refused(Desks::rich, call.with(2, -1).with(3, 2), 1);
        Edge.refused(PennyBooks::new, call, 1);
    }

    private static void spentCounts() {
        Edge.sentence("SPENT by a FAMILY in a WEEK on a KIND (or on all: NONE) are the PENCE of its LINES that went");
        Edge.taken(Desks::rich, Call.of("spent", 0, 100, 1, 0), 24);
        Edge.taken(Desks::rich, Call.of("spent", 0, 100, 0, 0), 40);
        Edge.taken(Desks::rich, Call.of("spent", 0, 100, -1, 0), 64);
        Edge.taken(Desks::rich, Call.of("spent", 0, 100, 2, 0), 0);
        Edge.taken(Desks::rich, Call.of("spent", 3, 101, 15, 0), 7);
        Edge.taken(Desks::rich, Call.of("spent", 3, 104, -1, 0), 0);
        for (int week : new int[] {0, 519}) {
            PennyBooks x = new PennyBooks();
            x.family(0, 0);
            x.edition(0);
            Tests.went(x, 0, week, 20000, "tea");
            Tests.came(x, 0, week, 1, "tea");
            Tests.due(x, Edge.about("week " + week), x.spent(0, week, -1, 0), 20000, 0);
            Tests.due(x, Edge.about("beside it"), x.spent(0, week == 0 ? 1 : 518, -1, 0), 0, 0);
        }
    }

    private static void spentOfManyLines() {
        Edge.sentence("SPENT of 200 LINES of 20,000 pence in one WEEK");
        PennyBooks x = new PennyBooks();
        x.family(0, 0);
        x.edition(0);
        for (int i = 0; i < 200; i++) {
            Tests.went(x, 0, 7, 20000, "tea");
        }
        Tests.due(x, Edge.about("all"), x.spent(0, 7, -1, 0), 4000000, 0);
        x.told(0, 7, 0);
        Tests.due(x, Edge.about("OUT"), x.out(0, 7), -4000000, 0);
    }

    private static void toldNumbers() {
        Edge.sentence("TOLD may be, of a FAMILY and a WEEK, (0 to 1,000,000)");
        Call call = Call.of("told", 0, 100, 7);
        Edge.range(Desks::rich, call, 0, 0, 3);
        Edge.range(Desks::rich, call, 1, 0, 519);
        Edge.range(Desks::rich, call, 2, 0, 1000000);
        for (int sum : new int[] {0, 1000000}) {
            PennyBooks x = new PennyBooks();
            x.family(0, 0);
            x.told(0, 519, sum);
            Tests.due(x, Edge.about("OUT by " + sum), x.out(0, 519), sum, 0);
        }
    }

    private static void toldAnew() {
        Edge.sentence("told anew in place of what was");
        PennyBooks x = Desks.rich();
        Tests.due(x, Edge.about("as it was"), x.out(0, 100), -12, 0);
        x.told(0, 100, 65);
        Tests.due(x, Edge.about("anew"), x.out(0, 100), 1, 0);
        Tests.due(x, Edge.about("the other one stays"), x.out(2, 10), 0, 0);
        x.told(2, 10, 1000000);
        Tests.due(x, Edge.about("the other one anew"), x.out(2, 10), 999995, 0);
        Tests.due(x, Edge.about("the first one stays"), x.out(0, 100), 1, 0);
    }

    private static void atMost40Told() {
        Edge.sentence("TOLD: at most 40 of them");
        PennyBooks x = new PennyBooks();
        x.family(0, 0);
        x.family(0, 0);
        for (int i = 0; i < 40; i++) {
            Tests.due(x, Edge.about("the " + (i + 1) + "th"), x.told(i % 2, i, 100 + i), 0);
        }
        for (int i = 0; i < 40; i++) {
            Tests.due(x, Edge.about("a 41st, with another FAMILY"), x.told(1 - i % 2, i, 5), 4);
            Tests.due(x, Edge.about("none of it"), x.out(1 - i % 2, i), -1, 6);
            Tests.due(x, Edge.about("anew is no other"), x.told(i % 2, i, 200 + i), 0);
            Tests.due(x, Edge.about("anew"), x.out(i % 2, i), 200 + i, 0);
        }
        Edge.refused(Desks::fullOfSums, Call.of("told", 0, 200, 7), 4);
        Edge.refused(Desks::fullOfSums, Call.of("told", 2, 100, 7), 4);
        Edge.taken(Desks::fullOfSums, Call.of("told", 0, 100, 7), 1);
        Edge.taken(Desks::fullOfSums, Call.of("told", 1, 139, 7), 1);
        Edge.sentence("told: 1 is asked ahead of 4");
        Edge.refused(Desks::fullOfSums, Call.of("told", 0, 200, -1), 1);
        Edge.refused(Desks::fullOfSums, Call.of("told", 4, 200, 7), 1);
        Edge.refused(Desks::fullOfSums, Call.of("told", 0, 520, 7), 1);
    }

    private static void outNumbers() {
        Edge.sentence("out (1)");
        Call call = Call.of("out", 0, 100);
        Edge.range(Desks::rich, call, 0, 0, 0, 3, 6);
        Edge.range(Desks::rich, call, 1, 0, 6, 519, 6);
    }

    private static void outIsToldLessSpent() {
        Edge.sentence("OUT; STATUS tells NONE from -1");
        for (int by = -2; by <= 2; by++) {
            PennyBooks x = one(100, 100 + by);
            Tests.due(x, Edge.about("by " + by), x.out(0, 5), by, 0);
        }
        PennyBooks x = one(20000, 0);
        Tests.due(x, Edge.about("told 0"), x.out(0, 5), -20000, 0);
        x = one(100, 99);
        Tests.due(x, Edge.about("NONE"), x.out(0, 6), -1, 6);
    }

    private static void nothingTold() {
        Edge.sentence("6: nothing was TOLD");
        Edge.refused(Desks::rich, Call.of("out", 0, 101), 6);
        Edge.refused(Desks::rich, Call.of("out", 2, 100), 6);
        Edge.refused(Desks::rich, Call.of("slips", 0, 101, 0), 6);
        Edge.refused(Desks::rich, Call.of("slips", 2, 100, 2), 6);
        Edge.refused(Desks::rich, Call.of("slip", 2), 6);
        PennyBooks x = new PennyBooks();
        x.family(0, 0);
        x.told(0, 0, 0);
        Tests.due(x, Edge.about("0 is something"), x.out(0, 0), 0, 0);
        Tests.due(x, Edge.about("0 is something"), x.slips(0, 0, 0), 0, 0);
    }

    /** One LINE of so many pence in WEEK 5, told as so many. */
    private static PennyBooks one(int pence, int told) {
        PennyBooks x = new PennyBooks();
        x.family(0, 0);
        Tests.went(x, 0, 5, pence, "tea");
        x.told(0, 5, told);
        return x;
    }

    /** So many LINES of 1,000 pence in WEEK 5, told as so many; and others that do not count. */
    private static PennyBooks many(int lines, int told) {
        PennyBooks x = new PennyBooks();
        x.family(0, 0);
        x.family(0, 0);
        Tests.came(x, 0, 5, 7, "wage");
        Tests.went(x, 0, 4, 7, "tea");
        Tests.went(x, 0, 6, 7, "tea");
        Tests.went(x, 1, 5, 7, "tea");
        for (int i = 0; i < lines; i++) {
            Tests.went(x, 0, 5, 1000, "tea");
        }
        x.words(1, 0, 0);
        x.line(0, 5, 0, 7, false, 0, 9);
        x.asof(8);
        x.told(0, 5, told);
        return x;
    }

    private static void atMostNineLines() {
        Edge.sentence("SLIPS explain what is OUT, where at most 9 LINES of the WEEK went");
        for (int lines = 0; lines <= 9; lines++) {
            int told = 1000 * lines;
            Edge.taken(() -> many(told / 1000, told), Call.of("slips", 0, 5, 0), 0);
        }
        Edge.taken(() -> many(9, 8000), Call.of("slips", 0, 5, 1), 9);
        Edge.taken(() -> many(9, 8000), Call.of("slip", 12), 1);
        for (int what = 0; what < 3; what++) {
            Edge.refused(() -> many(10, 10000), Call.of("slips", 0, 5, what), 6);
        }
        for (int line : new int[] {4, 12, 13}) {
            Edge.refused(() -> many(10, 10000), Call.of("slip", line), 6);
        }
        PennyBooks x = many(9, 9000);
        x.asof(9);
        Tests.due(x, Edge.about("a tenth, once it is known"), x.slips(0, 5, 0), -1, 6);
        // The first WEEK of the first FAMILY, with nothing else on the desk, and the last one of 200 LINES.
        x = new PennyBooks();
        x.family(0, 0);
        x.told(0, 0, 9000);
        x.told(0, 519, 9000);
        for (int i = 0; i < 9; i++) {
            Tests.went(x, 0, 0, 1000, "tea");
        }
        Tests.due(x, Edge.about("nine in WEEK 0"), x.slips(0, 0, 0), 0, 0);
        for (int i = 9; i < 200; i++) {
            Tests.went(x, 0, i < 191 ? 100 : 519, 1000, "tea");
        }
        Tests.due(x, Edge.about("the last nine of 200"), x.slips(0, 519, 0), 0, 0);
        Tests.due(x, Edge.about("the 200th"), x.slip(199), 0, 0);
    }

    private static void explained(int pence, int told, int slip) {
        PennyBooks x = one(pence, told);
        String call = Edge.about(pence + " told as " + told);
        Tests.due(x, call, x.slips(0, 5, 0), slip == 0 ? 0 : 1, 0);
        Tests.due(x, call + " rivals", x.slips(0, 5, 1), 1, 0);
        Tests.due(x, call + " carry", x.slips(0, 5, 2), 0, 0);
        Tests.due(x, call + " slip", x.slip(0), slip, 0);
    }

    private static void unexplained(int pence, int told) {
        Edge.refused(() -> one(pence, told), Call.of("slips", 0, 5, 0), 6);
        Edge.refused(() -> one(pence, told), Call.of("slip", 0), 6);
    }

    private static void leftOutOrTwice() {
        Edge.sentence("left out (1: less its PENCE), or summed twice (2: its PENCE more)");
        for (int pence : new int[] {1, 9, 100, 5000, 20000}) {
            explained(pence, pence, 0);
            explained(pence, 0, 1);
            explained(pence, 2 * pence, 2);
        }
        unexplained(5000, 1);
        unexplained(5000, 10001);
        unexplained(5000, 9999);
        unexplained(5000, 15000);
    }

    private static void figuresExchanged() {
        Edge.sentence("two neighbouring figures of it were exchanged"
            + " (3: the last two, 4: those ahead of the last one, ..)");
        explained(13579, 13597, 3);
        explained(13579, 13759, 4);
        explained(13579, 15379, 5);
        explained(13579, 31579, 6);
        explained(97, 79, 3);
        explained(970, 907, 3);
        explained(970, 790, 4);
        explained(9700, 9070, 4);
        explained(9700, 7900, 5);
        explained(19999, 91999, 6);
        explained(20000, 2000, 6);
        unexplained(13579, 15573);
        unexplained(97, 970);
    }

    private static void likeFigures() {
        Edge.sentence("figures that are unlike");
        // Were like ones exchanged, that would be SLIPS that add nothing, and make rivals of three SLIPS.
        PennyBooks x = new PennyBooks();
        x.family(0, 0);
        Tests.went(x, 0, 5, 11111, "tea");
        Tests.went(x, 0, 5, 2000, "tea");
        x.told(0, 5, 13111 + 24);
        Tests.due(x, Edge.about("FEWEST"), x.slips(0, 5, 0), 2, 0);
        Tests.due(x, Edge.about("RIVALS"), x.slips(0, 5, 1), 1, 0);
        x.told(0, 5, 13111);
        Tests.due(x, Edge.about("RIVALS of none"), x.slips(0, 5, 1), 1, 0);
        x.told(0, 5, 13111 - 1800);
        Tests.due(x, Edge.about("2,000 as 200"), x.slips(0, 5, 0), 1, 0);
        Tests.due(x, Edge.about("2,000 as 200: RIVALS"), x.slips(0, 5, 1), 1, 0);
        Tests.due(x, Edge.about("2,000 as 200: SLIP"), x.slip(1), 5, 0);
    }

    private static void withoutZerosAhead() {
        Edge.sentence("of PENCE as written without zeros ahead");
        unexplained(7, 70);
        explained(70, 7, 3);
        unexplained(57, 507);
        explained(507, 57, 4);
        unexplained(579, 5079);
        explained(5079, 579, 5);
        unexplained(5791, 50791);
        explained(15791, 51791, 6);
        unexplained(5791, 57910);
        unexplained(9, 90);
        unexplained(99, 909);
        unexplained(999, 9099);
        unexplained(9999, 90999);
    }

    private static void carryFromMinus3To3() {
        Edge.sentence("CARRY c from -3 to 3: 12 times c (as many SLIPS as the size of c)");
        for (int c = -3; c <= 3; c++) {
            int told = 5000 + 12 * c;
            Edge.taken(() -> one(5000, told), Call.of("slips", 0, 5, 0), Math.abs(c));
            Edge.taken(() -> one(5000, told), Call.of("slips", 0, 5, 1), 1);
            Edge.taken(() -> one(5000, told), Call.of("slips", 0, 5, 2), c);
            Edge.taken(() -> one(5000, told), Call.of("slip", 0), 0);
        }
        unexplained(5000, 5048);
        unexplained(5000, 4952);
        unexplained(5000, 5011);
        unexplained(5000, 5013);
        unexplained(5000, 4989);
        Edge.sentence("CARRY of a WEEK without LINES");
        for (int told : new int[] {0, 12, 24, 36}) {
            Edge.taken(() -> many(0, told), Call.of("slips", 0, 5, 2), told / 12);
        }
        for (int told : new int[] {1, 11, 13, 35, 37, 48}) {
            Edge.refused(() -> many(0, told), Call.of("slips", 0, 5, 2), 6);
        }
    }

    private static void atMostThreeSlips() {
        Edge.sentence("FEWEST SLIPS, at most 3");
        Edge.taken(() -> many(5, 2000), Call.of("slips", 0, 5, 0), 3);
        Edge.refused(() -> many(5, 1000), Call.of("slips", 0, 5, 0), 6);
        Edge.taken(() -> many(5, 8000), Call.of("slips", 0, 5, 0), 3);
        Edge.refused(() -> many(5, 9000), Call.of("slips", 0, 5, 0), 6);
        // One or two of the three may be carries.
        Edge.taken(() -> many(5, 4000 + 24), Call.of("slips", 0, 5, 0), 3);
        Edge.refused(() -> many(5, 4000 + 36), Call.of("slips", 0, 5, 0), 6);
        Edge.taken(() -> many(5, 3000 - 12), Call.of("slips", 0, 5, 0), 3);
        Edge.refused(() -> many(5, 3000 - 24), Call.of("slips", 0, 5, 0), 6);
        Edge.taken(() -> many(5, 2000), Call.of("slips", 0, 5, 1), 10);
    }

    private static void fewestFirst() {
        Edge.sentence("FEWEST SLIPS: with fewer than others");
        // 24 pence: left out it is one SLIP; a CARRY of -2 is two.
        Edge.taken(() -> one(24, 0), Call.of("slips", 0, 5, 0), 1);
        Edge.taken(() -> one(24, 0), Call.of("slips", 0, 5, 1), 1);
        Edge.taken(() -> one(24, 0), Call.of("slips", 0, 5, 2), 0);
        // 36 pence: left out it is one, exchanged (27 more) it is not.
        Edge.taken(() -> one(36, 0), Call.of("slips", 0, 5, 0), 1);
        Edge.taken(() -> one(36, 63), Call.of("slip", 0), 3);
        Edge.taken(() -> one(36, 75), Call.of("slips", 0, 5, 0), 2);
        Edge.taken(() -> one(36, 75), Call.of("slips", 0, 5, 2), 1);
    }

    private static void rivalsCounted() {
        Edge.sentence("RIVALS: how many EXPLANATIONS with so many");
        // 12 pence left out, or a CARRY of -1.
        Edge.taken(() -> one(12, 0), Call.of("slips", 0, 5, 1), 2);
        Edge.taken(() -> one(12, 24), Call.of("slips", 0, 5, 1), 2);
        // 10 pence left out is -10, exchanged it is -9.
        Edge.taken(() -> one(10, 0), Call.of("slips", 0, 5, 1), 1);
        Edge.taken(() -> one(10, 1), Call.of("slips", 0, 5, 1), 1);
        // 12 pence left out and a CARRY of 1 are nothing together, but more SLIPS than none.
        Edge.taken(() -> one(12, 12), Call.of("slips", 0, 5, 1), 1);
        Edge.taken(() -> lines(24, 12, 12), Call.of("slips", 0, 5, 1), 1);
        Edge.taken(() -> lines(5100, 12, 88, 5000), Call.of("slips", 0, 5, 1), 1);
        Edge.taken(() -> lines(5088, 12, 88, 5000), Call.of("slips", 0, 5, 1), 2);
        Edge.taken(() -> many(9, 6000), Call.of("slips", 0, 5, 1), 84);
        Edge.taken(() -> many(9, 12000), Call.of("slips", 0, 5, 1), 84);
        Edge.taken(() -> many(9, 9000), Call.of("slips", 0, 5, 1), 1);
    }

    /** LINES of these pence in WEEK 5, told as so many. */
    private static PennyBooks lines(int told, int... pence) {
        PennyBooks x = new PennyBooks();
        x.family(0, 0);
        for (int p : pence) {
            Tests.went(x, 0, 5, p, "tea");
        }
        x.told(0, 5, told);
        return x;
    }

    private static void first(int told, int[] pence, int carry, int... slips) {
        PennyBooks x = lines(told, pence);
        for (int i = 0; i < slips.length; i++) {
            Tests.due(x, Edge.about("told " + told + ", LINE " + i), x.slip(i), slips[i], 0);
        }
        Tests.due(x, Edge.about("told " + told + ", CARRY"), x.slips(0, 5, 2), carry, 0);
    }

    private static void theFirstByLines() {
        Edge.sentence("the first: LINE by LINE (by numbers) the lesser");
        first(2000, new int[] {1000, 1000, 1000}, 0, 0, 0, 1);
        first(1000, new int[] {1000, 1000, 1000}, 0, 0, 1, 1);
        // 900 less: 1,000 as 100 is slip 5 of either LINE.
        first(1100, new int[] {1000, 1000}, 0, 0, 5);
        // 1,000 less by the one left out, or by 2,000 less and 1,000 more: two SLIPS are more than one.
        first(2000, new int[] {1000, 2000}, 0, 1, 0);
        // 90 (81 less, 90 less or more) and 99 (99 less or more): 9 more is 90 less and 99 more.
        first(198, new int[] {90, 99}, 0, 1, 2);
    }

    private static void theFirstByCarry() {
        Edge.sentence("then the lesser CARRY");
        // 12 less: either LINE left out, or a CARRY, which comes first since both LINES have 0 then.
        first(12, new int[] {12, 12}, -1, 0, 0);
        first(36, new int[] {12, 12}, 1, 0, 0);
        // 36 told as 24: the CARRY alone is first, since its LINE has 0.
        first(24, new int[] {36}, -1, 0);
        // Two SLIPS of -24: two carries ahead of one LINE of 12 left out and one carry.
        first(5000, new int[] {12, 5012}, -2, 0, 0);
    }

    private static void slipsNumbers() {
        Edge.sentence("slips (1): FAMILY, WEEK, what 0 to 2");
        Call call = Call.of("slips", 0, 100, 0);
        Edge.range(Desks::rich, call, 0, 0, 0, 3, 6);
        Edge.range(Desks::rich, call, 1, 0, 6, 519, 6);
        Edge.range(Desks::rich, call, 2, 0, 2);
        Edge.sentence("slips: 1 is asked ahead of 6");
        Edge.refused(Desks::rich, Call.of("slips", 0, 101, 3), 1);
        Edge.refused(Desks::rich, Call.of("slips", 0, 101, -1), 1);
        Edge.sentence("slips: STATUS tells NONE from -1");
        Edge.taken(Desks::rich, Call.of("slips", 0, 100, 2), -1);
        Edge.refused(Desks::rich, Call.of("slips", 0, 101, 2), 6);
    }

    private static void slipRefused() {
        Edge.sentence("slip (1; 6: not KNOWN, it came, nothing was TOLD, more than 9 LINES, no EXPLANATION)");
        Edge.range(Desks::rich, Call.of("slip", 1), 0, 0, 6, Desks.LINES - 1, 6);
        Edge.taken(Desks::rich, Call.of("slip", 1), 0);
        Edge.taken(Desks::rich, Call.of("slip", 4), 0);
        Edge.refused(Desks::rich, Call.of("slip", 5), 6);
        Edge.refused(Desks::rich, Call.of("slip", 0), 6);
        Edge.refused(() -> many(3, 3000), Call.of("slip", 7), 6);
        Edge.taken(() -> many(3, 3000), Call.of("slip", 6), 0);
        Edge.refused(() -> many(3, 3000), Call.of("slip", 0), 6);
        Edge.refused(() -> many(3, 3001), Call.of("slip", 4), 6);
        Edge.refused(() -> many(10, 10000), Call.of("slip", 4), 6);
        Edge.refused(PennyBooks::new, Call.of("slip", 0), 1);
    }
}
