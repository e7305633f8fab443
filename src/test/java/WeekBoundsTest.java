/** Promises 33 and 36 to 40: each sentence that names a boundary, on both sides of it. */
public final class WeekBoundsTest {
    public static void main(String[] args) {
        changeNumbers();
        someInEach();
        aheadAndFrom();
        mostOfItsLines();
        fewestUnlike();
        firstWeek();
        handsAsKnown();
        withoutAChange();
        gapNumbers();
        betweenTwo();
        gapsAsKnown();
        boundNumbers();
        whichGap();
        notMoreThanN();
        boundsCount();
        boundRefused();
        askedAfterAnother();
        eachFamilyHasItsOwn();
        lossNumbers();
        atMostTwelveLosses();
        Tests.end();
    }

    private static PennyBooks oneFamily() {
        PennyBooks x = new PennyBooks();
        x.family(0, 0);
        x.family(0, 0);
        return x;
    }

    /** LINES of FAMILY 0, a WEEK and a HAND each; every other one came. */
    private static PennyBooks hands(int... weekAndHand) {
        PennyBooks x = oneFamily();
        for (int i = 0; i < weekAndHand.length; i += 2) {
            x.words(1, 0, 0);
            x.line(0, weekAndHand[i], 0, 5, i % 4 == 0, weekAndHand[i + 1], 0);
        }
        return x;
    }

    private static void best(PennyBooks x, String call, int week, int unlike, int without) {
        Tests.due(x, Edge.about(call + " WEEK"), x.change(0, 0), week, week == -1 ? 6 : 0);
        Tests.due(x, Edge.about(call + " UNLIKE"), x.change(0, 1), unlike, week == -1 ? 6 : 0);
        Tests.due(x, Edge.about(call + " without"), x.change(0, 2), without, without == -1 ? 6 : 0);
    }

    private static void changeNumbers() {
        Edge.sentence("change (1): FAMILY, what 0 to 2");
        Edge.range(Desks::rich, Call.of("change", 0, 0), 0, 0, 0, 3, 6);
        Edge.range(Desks::rich, Call.of("change", 0, 2), 0, 0, 3);
        Edge.range(Desks::rich, Call.of("change", 0, 0), 1, 0, 2);
        Edge.refused(PennyBooks::new, Call.of("change", 0, 0), 1);
        Edge.refused(Desks::rich, Call.of("change", 3, 3), 1);
    }

    private static void someInEach() {
        Edge.sentence("(some in each); 6: no CHANGE can be");
        for (int what = 0; what < 2; what++) {
            Edge.refused(WeekBoundsTest::oneFamily, Call.of("change", 0, what), 6);
            Edge.refused(() -> hands(5, 0), Call.of("change", 0, what), 6);
            Edge.refused(() -> hands(5, 0, 5, 1, 5, 2), Call.of("change", 0, what), 6);
            Edge.refused(() -> hands(0, 0), Call.of("change", 0, what), 6);
            Edge.refused(() -> hands(519, 0), Call.of("change", 0, what), 6);
            Edge.refused(() -> hands(5, 0, 6, 0), Call.of("change", 1, what), 6);
        }
        best(hands(5, 0, 6, 0), "two WEEKS", 6, 0, 0);
        best(hands(0, 0, 1, 1), "the first two WEEKS", 1, 0, 1);
        best(hands(518, 0, 519, 1), "the last two WEEKS", 519, 0, 1);
        best(hands(519, 1, 0, 0), "the first and the last WEEK", 1, 0, 1);
        Edge.sentence("6: for 2: no LINES");
        Edge.refused(WeekBoundsTest::oneFamily, Call.of("change", 0, 2), 6);
        Edge.taken(() -> hands(5, 0), Call.of("change", 0, 2), 0);
        Edge.refused(() -> hands(5, 0), Call.of("change", 1, 2), 6);
    }

    private static void aheadAndFrom() {
        Edge.sentence("parts its LINES into those ahead of it and those from it on");
        // HAND 1 up to WEEK 10, HAND 2 from 11 on: a CHANGE at 11 leaves none UNLIKE, at 10 or 12 one.
        best(hands(9, 1, 10, 1, 11, 2, 12, 2), "at 11", 11, 0, 2);
        best(hands(9, 1, 10, 2, 11, 2, 12, 2), "at 10", 10, 0, 1);
        best(hands(9, 1, 10, 1, 11, 1, 12, 2), "at 12", 12, 0, 1);
        best(hands(12, 2, 11, 2, 10, 1, 9, 1), "at 11, whatever the numbers", 11, 0, 2);
    }

    private static void mostOfItsLines() {
        Edge.sentence("Each part has the HAND that most of its LINES have; UNLIKE are LINES whose HAND is not that");
        best(hands(5, 0, 5, 0, 5, 7, 6, 7, 6, 7, 6, 0), "one in each", 6, 2, 3);
        best(hands(5, 0, 5, 1, 6, 2, 6, 3), "of like ones", 6, 2, 3);
        best(hands(5, 7, 5, 7, 6, 0, 6, 0), "HANDS 7 and 0", 6, 0, 2);
        best(hands(5, 7, 5, 7, 6, 7, 6, 7), "one HAND", 6, 0, 0);
        PennyBooks x = oneFamily();
        for (int i = 0; i < 200; i++) {
            x.words(1, 0, 0);
            x.line(0, i < 100 ? 0 : 519, 0, 5, false, i % 8, 0);
        }
        // 100 LINES of one WEEK: HANDS 0 to 3 have 13 each, the others 12; the next 100: 4 to 7 have 13.
        best(x, "200 LINES", 1, 87 + 87, 175);
    }

    private static void fewestUnlike() {
        Edge.sentence("BEST: the CHANGE with the fewest UNLIKE");
        best(hands(5, 0, 6, 1, 7, 1, 8, 1), "the first place", 6, 0, 1);
        best(hands(5, 0, 6, 0, 7, 0, 8, 1), "the last place", 8, 0, 1);
        best(hands(5, 0, 6, 1, 7, 0, 8, 1, 9, 1), "one is left over", 6, 1, 2);
        best(hands(5, 0, 6, 0, 7, 1, 8, 0, 9, 1, 10, 1), "in the middle", 7, 1, 3);
    }

    private static void firstWeek() {
        Edge.sentence("of several the first WEEK");
        best(hands(10, 0, 20, 1), "11 to 20 are alike", 11, 0, 1);
        best(hands(10, 0, 20, 0, 30, 0), "11 to 30 are alike", 11, 0, 0);
        best(hands(30, 0, 20, 0, 10, 0), "whatever the numbers", 11, 0, 0);
        best(hands(10, 0, 20, 1, 30, 0), "11 and 21 are alike", 11, 1, 1);
        best(hands(0, 0, 519, 0), "1 to 519", 1, 0, 0);
    }

    private static void handsAsKnown() {
        Edge.sentence("its LINES (as known)");
        PennyBooks x = hands(5, 0, 6, 1);
        x.words(1, 0, 0);
        x.line(0, 4, 0, 5, false, 3, 10);
        x.words(1, 0, 0);
        x.line(1, 4, 0, 5, false, 3, 10);
        x.asof(9);
        best(x, "a third one is not", 6, 0, 1);
        x.asof(10);
        best(x, "now it is", 5, 1, 2);
    }

    private static void withoutAChange() {
        Edge.sentence("2: UNLIKE without a CHANGE, all LINES being one part");
        Edge.taken(() -> hands(5, 0, 5, 1, 5, 1), Call.of("change", 0, 2), 1);
        Edge.taken(() -> hands(0, 0, 519, 1, 5, 2), Call.of("change", 0, 2), 2);
        Edge.taken(() -> hands(0, 7, 519, 7), Call.of("change", 0, 2), 0);
    }

    private static void gapNumbers() {
        Edge.sentence("gaps (1)");
        Edge.range(Desks::rich, Call.of("gaps", 0), 0, 0, 3);
        Edge.refused(PennyBooks::new, Call.of("gaps", 0), 1);
    }

    /** A LINE that went of so many pence, in each of the WEEKS. */
    private static PennyBooks went(int... weekAndPence) {
        PennyBooks x = oneFamily();
        for (int i = 0; i < weekAndPence.length; i += 2) {
            Tests.went(x, 0, weekAndPence[i], weekAndPence[i + 1], "tea");
        }
        return x;
    }

    private static void betweenTwo() {
        Edge.sentence("A GAP of a FAMILY is a WEEK in which no LINE of it went, between two in which some did");
        Edge.taken(WeekBoundsTest::oneFamily, Call.of("gaps", 0), 0);
        Edge.taken(() -> went(0, 1), Call.of("gaps", 0), 0);
        Edge.taken(() -> went(519, 1), Call.of("gaps", 0), 0);
        Edge.taken(() -> went(5, 1, 5, 1), Call.of("gaps", 0), 0);
        Edge.taken(() -> went(5, 1, 6, 1), Call.of("gaps", 0), 0);
        Edge.taken(() -> went(5, 1, 7, 1), Call.of("gaps", 0), 1);
        Edge.taken(() -> went(7, 1, 5, 1), Call.of("gaps", 0), 1);
        Edge.taken(() -> went(0, 1, 519, 1), Call.of("gaps", 0), 518);
        Edge.taken(() -> went(0, 1, 519, 1, 100, 1), Call.of("gaps", 0), 517);
        Edge.taken(() -> went(5, 1, 7, 1, 10, 1), Call.of("gaps", 0), 3);
        Edge.taken(() -> went(5, 1, 10, 1), Call.of("gaps", 1), 0);
        PennyBooks x = went(5, 1, 7, 1);
        Tests.came(x, 0, 6, 1, "wage");
        Tests.went(x, 1, 6, 1, "tea");
        Tests.due(x, Edge.about("what came, or another FAMILY's, fills none"), x.gaps(0), 1, 0);
        Tests.came(x, 0, 3, 1, "wage");
        Tests.came(x, 0, 9, 1, "wage");
        Tests.due(x, Edge.about("nor makes any"), x.gaps(0), 1, 0);
    }

    private static void gapsAsKnown() {
        Edge.sentence("GAPS (as known)");
        PennyBooks x = went(5, 1, 7, 1);
        x.words(1, 0, 0);
        x.line(0, 6, 0, 5, false, 0, 10);
        x.words(1, 0, 0);
        x.line(0, 9, 0, 5, false, 0, 11);
        int[] days = {9, 10, 11};
        int[] gaps = {1, 0, 1};
        for (int i = 0; i < 3; i++) {
            x.asof(days[i]);
            Tests.due(x, Edge.about("as of " + days[i]), x.gaps(0), gaps[i], 0);
            Tests.due(x, Edge.about("6 as of " + days[i]), x.bound(0, 6, 9, 0), i == 0 ? 1 : -1, i == 0 ? 0 : 6);
            Tests.due(x, Edge.about("8 as of " + days[i]), x.bound(0, 8, 9, 0), i == 2 ? 1 : -1, i == 2 ? 0 : 6);
        }
    }

    private static void boundNumbers() {
        Edge.sentence("bound (1): FAMILY, WEEK, n (1 to 60), what 0, 1");
        Call call = Call.of("bound", 2, 11, 5, 0);
        Edge.range(Desks::rich, call, 0, 0, 6, 3, 6);
        Edge.range(Desks::rich, call, 1, 0, 6, 519, 6);
        Edge.range(Desks::rich, call, 2, 1, 60);
        Edge.range(Desks::rich, call, 3, 0, 1);
        Edge.sentence("bound: 1 is asked ahead of 6");
        Edge.refused(Desks::rich, Call.of("bound", 2, 10, 0, 0), 1);
        Edge.refused(Desks::rich, Call.of("bound", 2, 10, 5, 2), 1);
        Edge.refused(Desks::rich, Call.of("bound", 4, 10, 5, 0), 1);
    }

    private static void whichGap() {
        Edge.sentence("6: no GAP");
        int[] weeks = {0, 9, 10, 11, 12, 13, 14, 519};
        int[] status = {6, 6, 6, 0, 0, 6, 6, 6};
        for (int i = 0; i < weeks.length; i++) {
            Edge.status(Desks::rich, Call.of("bound", 2, weeks[i], 60, 0), status[i]);
        }
        Edge.refused(WeekBoundsTest::oneFamily, Call.of("bound", 0, 0, 60, 0), 6);
        Edge.refused(WeekBoundsTest::oneFamily, Call.of("bound", 0, 519, 60, 0), 6);
        Edge.refused(() -> went(0, 1, 519, 1), Call.of("bound", 0, 0, 60, 0), 6);
        Edge.taken(() -> went(0, 1, 519, 2), Call.of("bound", 0, 1, 60, 0), 1);
        Edge.taken(() -> went(0, 1, 519, 2), Call.of("bound", 0, 518, 60, 0), 2);
        Edge.refused(() -> went(0, 1, 519, 1), Call.of("bound", 0, 519, 60, 0), 6);
    }

    private static void notMoreThanN() {
        Edge.sentence("in WEEKS not more than n (1 to 60) from it");
        for (int n : new int[] {1, 2, 59, 60}) {
            for (int sign : new int[] {-1, 1}) {
                for (int away = n; away <= n + 1; away++) {
                    PennyBooks x = went(200 + sign * away, 7, 200 - sign * 70, 9);
                    boolean within = away <= n;
                    String call = Edge.about(sign * away + " away, n " + n);
                    Tests.due(x, call, x.bound(0, 200, n, 0), within ? 7 : -1, within ? 0 : 6);
                    Tests.due(x, call, x.bound(0, 200, n, 1), within ? 7 : -1, within ? 0 : 6);
                }
            }
        }
        Edge.sentence("6: no such WEEKS");
        Edge.refused(() -> went(100, 7, 222, 9), Call.of("bound", 0, 161, 60, 0), 6);
        Edge.taken(() -> went(100, 7, 222, 9), Call.of("bound", 0, 160, 60, 0), 7);
        Edge.taken(() -> went(100, 7, 222, 9), Call.of("bound", 0, 162, 60, 0), 9);
    }

    private static void boundsCount() {
        Edge.sentence("BOUNDS of a GAP: the least and the greatest SPENT on all");
        PennyBooks x = went(100, 7, 100, 8, 102, 9, 103, 20000, 103, 20000, 98, 11);
        Tests.came(x, 0, 102, 500, "wage");
        Tests.due(x, Edge.about("least, n 1"), x.bound(0, 101, 1, 0), 9, 0);
        Tests.due(x, Edge.about("greatest, n 1"), x.bound(0, 101, 1, 1), 15, 0);
        Tests.due(x, Edge.about("greatest, n 2"), x.bound(0, 101, 2, 1), 40000, 0);
        Tests.due(x, Edge.about("least, n 3"), x.bound(0, 101, 3, 0), 9, 0);
        Tests.due(x, Edge.about("of the other GAP"), x.bound(0, 99, 1, 0), 11, 0);
        Edge.sentence("that are no GAPS, nor ahead of the first WEEK in which a LINE went, nor behind the last one");
        Tests.due(x, Edge.about("no 0 of such WEEKS"), x.bound(0, 99, 60, 0), 9, 0);
        Tests.due(x, Edge.about("no 0 of such WEEKS"), x.bound(0, 101, 60, 0), 9, 0);
    }

    private static void boundRefused() {
        Edge.sentence("bound: what 0: the least, 1: the greatest");
        Edge.taken(Desks::rich, Call.of("bound", 2, 11, 1, 0), 5);
        Edge.taken(Desks::rich, Call.of("bound", 2, 11, 1, 1), 5);
        Edge.taken(Desks::rich, Call.of("bound", 2, 11, 2, 0), 5);
        Edge.taken(Desks::rich, Call.of("bound", 2, 11, 2, 1), 8);
        Edge.refused(Desks::rich, Call.of("bound", 3, 102, 60, 0), 6);
    }

    private static void askedAfterAnother() {
        Edge.sentence("GAPS, BOUNDS and HANDS are those of the FAMILY asked");
        PennyBooks x = went(0, 900, 519, 800, 2, 700);
        Tests.went(x, 1, 100, 5, "tea");
        Tests.due(x, Edge.about("many"), x.gaps(0), 516 + 1, 0);
        Tests.due(x, Edge.about("none"), x.gaps(1), 0, 0);
        Tests.due(x, Edge.about("many again"), x.gaps(0), 516 + 1, 0);
        Tests.due(x, Edge.about("a GAP of the one"), x.bound(0, 1, 1, 1), 900, 0);
        Tests.due(x, Edge.about("is none of the other"), x.bound(1, 1, 60, 1), -1, 6);
        Tests.went(x, 1, 102, 6, "tea");
        Tests.due(x, Edge.about("a GAP of the one"), x.bound(0, 1, 1, 1), 900, 0);
        Tests.due(x, Edge.about("the greatest of the other"), x.bound(1, 101, 60, 1), 6, 0);
        Tests.due(x, Edge.about("the least of the other"), x.bound(1, 101, 60, 0), 5, 0);
        Tests.due(x, Edge.about("the least of the one"), x.bound(0, 1, 60, 0), 700, 0);
        Tests.due(x, Edge.about("the CHANGE of the one"), x.change(0, 0), 1, 0);
        Tests.due(x, Edge.about("the CHANGE of the other"), x.change(1, 0), 101, 0);
    }

    /** FAMILY f has one LINE in each WEEK up to f in one HAND, then three in another one, and a GAP ahead of the last. */
    private static void eachFamilyHasItsOwn() {
        Edge.sentence("CHANGES, GAPS and BOUNDS are those of the FAMILY asked, whichever of twelve it is");
        PennyBooks x = new PennyBooks();
        for (int f = 0; f < 12; f++) {
            x.family(0, 0);
            for (int i = 0; i < f + 4; i++) {
                x.words(1, 0, 0);
                x.line(f, i < f + 3 ? i : i + f + 1, 0, 100 * f + i + 1, false, i <= f ? 7 - f % 7 : f % 7 == 0 ? 1 : 0, 0);
            }
        }
        for (int f = 0; f < 12; f++) {
            Tests.due(x, Edge.about("the CHANGE of " + f), x.change(f, 0), f + 1, 0);
            Tests.due(x, Edge.about("UNLIKE of " + f), x.change(f, 1), 0, 0);
            Tests.due(x, Edge.about("without a CHANGE, of " + f), x.change(f, 2), Math.min(f + 1, 3), 0);
            Tests.due(x, Edge.about("GAPS of " + f), x.gaps(f), f + 1, 0);
            Tests.due(x, Edge.about("the least of " + f), x.bound(f, f + 3, 1, 0), 101 * f + 3, 0);
            Tests.due(x, Edge.about("the greatest of " + f), x.bound(f, 2 * f + 3, f + 1, 1), 101 * f + 4, 0);
        }
    }

    private static void lossNumbers() {
        Edge.sentence("loss (1)");
        Edge.range(Desks::rich, Call.of("loss", 0, 100), 0, 0, 3);
        Edge.range(Desks::rich, Call.of("loss", 0, 100), 1, 0, 519);
        Edge.refused(PennyBooks::new, Call.of("loss", 0, 0), 1);
    }

    private static void atMostTwelveLosses() {
        Edge.sentence("LOSSES, at most 12");
        PennyBooks x = oneFamily();
        for (int i = 0; i < 12; i++) {
            Tests.due(x, Edge.about("there is no " + i + " yet"), x.likes(i, 1), -1, 1);
            Tests.due(x, Edge.about("number " + i), x.loss(0, 100), i, 0);
            Tests.due(x, Edge.about("there is " + i), x.likes(i, 1), 0, 0);
        }
        Tests.due(x, Edge.about("a 13th"), x.loss(0, 100), -1, 4);
        Tests.due(x, Edge.about("there is no 13th"), x.likes(12, 1), -1, 1);
        Edge.refused(Desks::fullOfLosses, Call.of("loss", 0, 100), 4);
        Edge.sentence("loss: 1 is asked ahead of 4");
        Edge.refused(Desks::fullOfLosses, Call.of("loss", 4, 100), 1);
        Edge.refused(Desks::fullOfLosses, Call.of("loss", 0, 520), 1);
    }
}
