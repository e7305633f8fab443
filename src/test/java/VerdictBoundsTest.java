/** Promises 18 and 19, and how an EDITION judges: each sentence that names a boundary, on both sides of it. */
public final class VerdictBoundsTest {
    /** 2 to the 62nd and to the 63rd, which is the least number there is, and the greatest one. */
    private static final String HALF = "(65536*65536*(65536*16384))";
    private static final String LEAST = "(65536*65536*(65536*32768))";
    private static final String GREATEST = "(" + LEAST + "-1)";

    public static void main(String[] args) {
        kindIsCut();
        unitsAreCut();
        unitsWithout();
        noSuchRule();
        firstRule();
        comparing();
        orAndNot();
        fromLeftToRight();
        behindAFault();
        yearOfAWeek();
        roundOn();
        towardsZero();
        byZero();
        greatestNumber();
        asKnown();
        kindNumbers();
        kindRefused();
        movedNumbers();
        movedCounts();
        Tests.end();
    }

    /** One LINE "tea" that went, in WEEK 105 at SHOP 7, of 60 pence. */
    private static PennyBooks desk() {
        PennyBooks x = new PennyBooks();
        x.family(0, 0);
        x.words(Tests.word("tea"), 0, 0);
        x.line(0, 105, 7, 60, false, 0, 0);
        return x;
    }

    private static void judged(String text, int kind, int units) {
        PennyBooks x = desk();
        int e = Tests.edition(x, text);
        Tests.due(x, Edge.about(text), x.kind(0, e, 0), kind, 0);
        Tests.due(x, Edge.about(text), x.kind(0, e, 1), units, 0);
    }

    private static void holds(String test, boolean want) {
        judged("if " + test + " then kind 1;", want ? 1 : 0, 1);
    }

    private static void kindIsCut() {
        Edge.sentence("its KIND is that SUM, cut to 0 and 15");
        int[] sums = {0, 1, 14, 15, 16, 17, 256, 99999};
        for (int sum : sums) {
            judged("if 1=1 then kind " + sum + ";", Math.min(15, sum), 1);
        }
        judged("if 1=1 then kind 0-1;", 0, 1);
        judged("if 1=1 then kind 0-16;", 0, 1);
        judged("if 1=1 then kind 65536*65536;", 15, 1);
        judged("if 1=1 then kind 0-65536*65536;", 0, 1);
        judged("if 1=1 then kind " + GREATEST + ";", 15, 1);
        judged("if 1=1 then kind " + LEAST + ";", 0, 1);
    }

    private static void unitsAreCut() {
        Edge.sentence("its UNITS that other one, cut to 1 and 1,000");
        int[] sums = {0, 1, 2, 999, 1000, 1001, 1024, 1025, 99999};
        for (int sum : sums) {
            judged("if 1=1 then kind 3 units " + sum + ";", 3, Math.max(1, Math.min(1000, sum)));
        }
        judged("if 1=1 then kind 3 units 0-1;", 3, 1);
        judged("if 1=1 then kind 3 units 65536*65536;", 3, 1000);
        judged("if 1=1 then kind 3 units 65536*65536+1;", 3, 1000);
        judged("if 1=1 then kind 3 units 0-65536*65536;", 3, 1);
        judged("if 1=1 then kind 3 units " + GREATEST + ";", 3, 1000);
        judged("if 1=1 then kind 3 units " + LEAST + ";", 3, 1);
    }

    private static void unitsWithout() {
        Edge.sentence("1 without");
        judged("if 1=1 then kind 3;", 3, 1);
        judged("if 1=2 then kind 3 units 9; if 1=1 then kind 4;", 4, 1);
        judged("if 1=1 then kind 0;", 0, 1);
        judged("if 1=1 then kind 0 units 7;", 0, 7);
    }

    private static void noSuchRule() {
        Edge.sentence("with no such RULE it is KIND 0 with 1 UNIT");
        String one = "if came then kind 3 units 9;";
        String[] texts = {"", one, one + " if 1=2 then kind 4 units 8;"};
        for (String text : texts) {
            judged(text, 0, 1);
            Edge.refused(() -> withEdition(text), Call.of("kind", 0, 0, 2), 6);
        }
        Edge.taken(() -> withEdition("if not came then kind 0;"), Call.of("kind", 0, 0, 2), 0);
    }

    private static PennyBooks withEdition(String text) {
        PennyBooks x = desk();
        Tests.edition(x, text);
        return x;
    }

    private static void firstRule() {
        Edge.sentence("a LINE is of the first RULE whose TEST holds");
        String text = "if pence < 60 then kind 1 units 4; if pence = 60 then kind 2 units 5;"
            + " if pence > 59 then kind 3;";
        judged(text, 2, 5);
        Edge.taken(() -> withEdition(text), Call.of("kind", 0, 0, 2), 1);
        judged("if pence > 59 then kind 3; " + text, 3, 1);
        Edge.taken(() -> withEdition("if pence > 59 then kind 3; " + text), Call.of("kind", 0, 0, 2), 0);
        Edge.taken(() -> withEdition("if came then kind 3; " + text), Call.of("kind", 0, 0, 2), 2);
    }

    private static void comparing() {
        Edge.sentence("COMPARES: < or > or =");
        for (int number = 59; number <= 61; number++) {
            holds("pence < " + number, 60 < number);
            holds("pence > " + number, 60 > number);
            holds("pence = " + number, 60 == number);
            holds("not pence < " + number, 60 >= number);
            holds("not pence > " + number, 60 <= number);
            holds("not pence = " + number, 60 != number);
        }
        holds(LEAST + " < " + GREATEST, true);
        holds(LEAST + " > " + GREATEST, false);
        holds("0-1 < 0", true);
        holds("0 > 0-1", true);
    }

    private static void orAndNot() {
        Edge.sentence("TEST: PART {or PART}. PART: ONE {and ONE}");
        String[] no = {"came", "word pie", "pence < 60", "not word tea", "not pence = 60"};
        String[] yes = {"not came", "word tea", "pence > 59", "not word pie", "not shop < 7"};
        for (int round = 0; round < 5 * 8; round++) {
            int bits = round & 7;
            int way = round >> 3;
            boolean a = (bits & 1) != 0;
            boolean b = (bits & 2) != 0;
            boolean c = (bits & 4) != 0;
            String[] of = {(a ? yes : no)[way], (b ? yes : no)[(way + 1) % 5], (c ? yes : no)[(way + 3) % 5]};
            holds(of[0], a);
            holds(of[0] + " and " + of[1], a && b);
            holds(of[0] + " or " + of[1], a || b);
            holds(of[0] + " and " + of[1] + " or " + of[2], a && b || c);
            holds(of[0] + " or " + of[1] + " and " + of[2], a || b && c);
            holds(of[0] + " and " + of[1] + " and " + of[2], a && b && c);
            holds(of[0] + " or " + of[1] + " or " + of[2], a || b || c);
        }
    }

    private static void fromLeftToRight() {
        Edge.sentence("SUM: ITEM {+ ITEM, or - ITEM}. ITEM: ATOM {* ATOM, or / ATOM}");
        holds("10-3-2 = 5", true);
        holds("10-3+2 = 9", true);
        holds("10+3-2-1 = 10", true);
        holds("100/10/5 = 2", true);
        holds("7/2*2 = 6", true);
        holds("7*2/4 = 3", true);
        holds("7*2/4*3/2 = 4", true);
        holds("1+2*3-8/3*2 = 3", true);
        holds("(1+2)*(3-1)/(4-1) = 2", true);
        holds("10-(3-2) = 9", true);
        holds("2*((3+4)*(5-(6-3))) = 28", true);
        Edge.sentence("SUM COMPARES SUM: on the right, too");
        for (String compares : new String[] {" = ", " < ", " > "}) {
            for (int left = 6; left <= 8; left++) {
                boolean want = compares.equals(" = ") ? left == 7 : compares.equals(" < ") ? left < 7 : left > 7;
                for (String seven : new String[] {"7", "2+5", "9-2", "7*1", "14/2", "(2+5)", "1+2*3", "shop"}) {
                    holds(left + compares + seven, want);
                    holds("not " + left + compares + seven, !want);
                    holds(left + compares + seven + " and not came", want);
                    holds("came or " + left + "+3-3" + compares + seven, want);
                }
            }
        }
    }

    private static void behindAFault() {
        Edge.sentence("an EDITION behind one with a FAULT is as on a new desk");
        String[] faulty = {"if not (1+2*(3-(4/", "if came and 1+", "if came or not word tea and (((((((",
            "if 1=1 then kind (2+(", "if 1=1 then kind 3 units 4*(",
            "if 1=1 then kind 5 units 6; if 7=7 then kind 8", "if not #"};
        for (String text : faulty) {
            PennyBooks x = desk();
            Tests.due(x, Edge.about(text), Tests.edition(x, text), -1, 9);
            int e = Tests.edition(x, "if came then kind 1; if (1)=1 and not came then kind ((((((9-3)))))) units 2+3;");
            Tests.due(x, Edge.about("behind " + text), e, 0, 0);
            Tests.due(x, Edge.about("KIND behind " + text), x.kind(0, e, 0), 6, 0);
            Tests.due(x, Edge.about("UNITS behind " + text), x.kind(0, e, 1), 5, 0);
            Tests.due(x, Edge.about("RULE behind " + text), x.kind(0, e, 2), 1, 0);
        }
    }

    private static void yearOfAWeek() {
        Edge.sentence("the YEAR of one is it by 52, rounded down");
        int[] weeks = {0, 51, 52, 103, 104, 467, 468, 519};
        int[] years = {0, 0, 1, 1, 2, 8, 9, 9};
        for (int i = 0; i < weeks.length; i++) {
            PennyBooks x = new PennyBooks();
            x.family(0, 0);
            Tests.went(x, 0, weeks[i], 5, "tea");
            int e = Tests.edition(x, "if week = " + weeks[i] + " then kind year units week;");
            Tests.due(x, Edge.about("week " + weeks[i]), x.kind(0, e, 0), years[i], 0);
            Tests.due(x, Edge.about("week " + weeks[i]), x.kind(0, e, 1), Math.max(1, weeks[i]), 0);
            x.rules(10, 1);
            Tests.due(x, Edge.about("price() of that YEAR"), x.price(years[i], years[i], e, 0), 1, 0);
            if (years[i] < 9) {
                Tests.due(x, Edge.about("price() of the next"), x.price(years[i], years[i] + 1, e, 0), -1, 6);
            }
            if (years[i] > 0) {
                Tests.due(x, Edge.about("price() of the one ahead"), x.price(years[i], years[i] - 1, e, 0), -1, 6);
            }
        }
    }

    private static void roundOn() {
        Edge.sentence("NUMBERS are of 64 bits, round on");
        holds(GREATEST + " > 0", true);
        holds(GREATEST + " + 1 < 0", true);
        holds(GREATEST + " + 1 = " + LEAST, true);
        holds(LEAST + " < 0", true);
        holds(LEAST + " - 1 = " + GREATEST, true);
        holds(LEAST + " + " + LEAST + " = 0", true);
        holds("0 - " + LEAST + " = " + LEAST, true);
        holds(HALF + " > 0", true);
        holds(HALF + " + " + HALF + " = " + LEAST, true);
        holds(HALF + " * 2 = " + LEAST, true);
        holds(HALF + " * 4 = 0", true);
        holds(GREATEST + " * " + GREATEST + " = 1", true);
        holds(LEAST + " * (0-1) = " + LEAST, true);
    }

    private static void towardsZero() {
        Edge.sentence("/ as the machine's (towards 0)");
        holds("7/2 = 3", true);
        holds("(0-7)/2 = 0-3", true);
        holds("7/(0-2) = 0-3", true);
        holds("(0-7)/(0-2) = 3", true);
        holds("6/2 = 3", true);
        holds("1/2 = 0", true);
        holds("(0-1)/2 = 0", true);
        holds("59/pence = 0", true);
        holds("60/pence = 1", true);
        holds("119/pence = 1", true);
        holds("120/pence = 2", true);
        holds(LEAST + "/(0-1) = " + LEAST, true);
        holds(GREATEST + "/(0-1) = 0-" + GREATEST, true);
        holds(LEAST + "/" + LEAST + " = 1", true);
    }

    private static void byZero() {
        Edge.sentence("by 0 it is 0");
        holds("5/0 = 0", true);
        holds("0/0 = 0", true);
        holds("5/(shop-7) = 0", true);
        holds("5/(shop-6) = 5", true);
        holds("5/(shop-8) = 0-5", true);
        holds("1+5/0*9 = 1", true);
        holds(LEAST + "/0 = 0", true);
        judged("if 1=1 then kind 5/0 units 9/0;", 0, 1);
        judged("if 1/0=0 then kind 7 units 8;", 7, 8);
    }

    private static void greatestNumber() {
        Edge.sentence("NUMBERS (1 to 5 digits): from 0 to 99,999");
        holds("99999 = 100*1000-1", true);
        holds("0 = 00000", true);
        holds("00060 = pence", true);
        holds("7 = shop", true);
    }

    private static void asKnown() {
        Edge.sentence("By an EDITION a LINE (as known)");
        PennyBooks x = desk();
        x.reading(0, 61, 10);
        int e = Tests.edition(x, "if pence > 60 then kind 2 units pence; if 1=1 then kind 1 units pence;");
        int[] days = {0, 9, 10, 9999};
        for (int day : days) {
            x.asof(day);
            Tests.due(x, Edge.about("KIND as of " + day), x.kind(0, e, 0), day < 10 ? 1 : 2, 0);
            Tests.due(x, Edge.about("UNITS as of " + day), x.kind(0, e, 1), day < 10 ? 60 : 61, 0);
            Tests.due(x, Edge.about("RULE as of " + day), x.kind(0, e, 2), day < 10 ? 1 : 0, 0);
        }
    }

    private static void kindNumbers() {
        Edge.sentence("kind: a LINE, an EDITION, what 0, 1, 2");
        Call call = Call.of("kind", 0, 0, 0);
        Edge.range(Desks::rich, call, 0, 0, 0, Desks.LINES - 1, 6);
        Edge.range(Desks::rich, call, 1, 0, 1);
        Edge.range(Desks::rich, call, 2, 0, 2);
        Edge.refused(PennyBooks::new, call, 1);
        Edge.taken(Desks::fullOfEditions, call.with(1, 4), 0);
        Edge.refused(Desks::fullOfEditions, call.with(1, 5), 1);
    }

    private static void kindRefused() {
        Edge.sentence("kind: a LINE that is not KNOWN (AS OF) is none such (6)");
        for (int what = 0; what < 3; what++) {
            Edge.status(Desks::rich, Call.of("kind", 14, 0, what), 0);
            Edge.refused(Desks::rich, Call.of("kind", 15, 0, what), 6);
        }
        Edge.sentence("kind: what 2: the RULE (6: none)");
        Edge.taken(Desks::rich, Call.of("kind", 0, 0, 2), 0);
        Edge.taken(Desks::rich, Call.of("kind", 14, 0, 2), 3);
        Edge.refused(Desks::rich, Call.of("kind", 4, 0, 2), 6);
        Edge.taken(Desks::rich, Call.of("kind", 4, 0, 0), 0);
        Edge.taken(Desks::rich, Call.of("kind", 4, 0, 1), 1);
        Edge.sentence("kind: 1 is asked ahead of 6");
        Edge.refused(Desks::rich, Call.of("kind", 15, 2, 0), 1);
        Edge.refused(Desks::rich, Call.of("kind", 15, 0, 3), 1);
        Edge.refused(Desks::rich, Call.of("kind", 4, 0, 3), 1);
    }

    private static void movedNumbers() {
        Edge.sentence("moved (1)");
        Edge.range(Desks::rich, Call.of("moved", 0, 0), 0, 0, 1);
        Edge.range(Desks::rich, Call.of("moved", 0, 0), 1, 0, 1);
        Edge.refused(PennyBooks::new, Call.of("moved", 0, 0), 1);
    }

    private static void movedCounts() {
        Edge.sentence("How many LINES (as known) are of unlike KINDS by two EDITIONS");
        PennyBooks x = desk();
        int all = Tests.edition(x, "if 1=1 then kind 1;");
        int units = Tests.edition(x, "if 1=2 then kind 5; if 1=1 then kind 1 units 9;");
        int none = x.edition(0);
        Tests.due(x, Edge.about("unlike UNITS and RULES alone"), x.moved(all, units), 0, 0);
        Tests.due(x, Edge.about("one"), x.moved(all, none), 1, 0);
        x.words(1, 0, 0);
        x.line(0, 0, 0, 5, true, 0, 10);
        Tests.due(x, Edge.about("one that came, too"), x.moved(none, all), 2, 0);
        x.asof(9);
        Tests.due(x, Edge.about("not known"), x.moved(none, all), 1, 0);
        x.asof(10);
        Tests.due(x, Edge.about("known"), x.moved(none, all), 2, 0);
        x = new PennyBooks();
        x.edition(0);
        Tests.due(x, Edge.about("no LINES at all"), x.moved(0, 0), 0, 0);
        x = Desks.fullOfLines();
        x.edition(0);
        Tests.edition(x, "if pence > 0 then kind 1;");
        Tests.due(x, Edge.about("all 200"), x.moved(0, 1), 200, 0);
    }
}
