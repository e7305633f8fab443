/** Promises 39 and 40: each sentence that names a boundary, on both sides of it. */
public final class LossBoundsTest {
    public static void main(String[] args) {
        fellNumbers();
        likesNumbers();
        weeksFrom0To519();
        spentFromItOn();
        itselfInEach();
        likeInEach();
        ofItsClass();
        othersThanIt();
        noLossInThem();
        thereAreLikeOnes();
        theFirstAndTheLastFamily();
        theFirstWeek();
        theMean();
        onAKind();
        elevenLikeOnes();
        fiftyTwoWeeks();
        asKnown();
        Tests.end();
    }

    /** So many FAMILIES of CLASS 0 with 10 pence in each WEEK from 98 to 103, and a LOSS of the first one in 101. */
    private static PennyBooks desk(int families) {
        PennyBooks x = new PennyBooks();
        for (int i = 0; i < families; i++) {
            x.family(0, i % 4);
        }
        x.edition(0);
        for (int i = 0; i < families; i++) {
            for (int week = 98; week <= 103; week++) {
                Tests.went(x, i, week, 10, "tea");
            }
        }
        x.loss(0, 101);
        return x;
    }

    private static void fellNumbers() {
        Edge.sentence("fell (1): LOSS, KIND (or all), EDITION, over n WEEKS (1 to 26)");
        Call call = Call.of("fell", 0, 1, 0, 2);
        Edge.range(Desks::rich, call, 0, 0, 0, 1, 6);
        Edge.range(Desks::rich, call, 1, -1, 15);
        Edge.range(Desks::rich, call, 2, 0, 1);
        Edge.range(Desks::rich, call, 3, 1, 0, 26, 6);
        Edge.refused(PennyBooks::new, call, 1);
        Edge.sentence("fell: 1 is asked ahead of 6");
        Edge.refused(Desks::rich, Call.of("fell", 1, 16, 0, 2), 1);
        Edge.refused(Desks::rich, Call.of("fell", 1, 1, 2, 2), 1);
        Edge.refused(Desks::rich, Call.of("fell", 1, 1, 0, 27), 1);
        Edge.refused(Desks::rich, Call.of("fell", 2, 1, 0, 26), 1);
    }

    private static void likesNumbers() {
        Edge.sentence("likes (1): LOSS, n (1 to 26)");
        Edge.range(Desks::rich, Call.of("likes", 0, 2), 0, 0, 1);
        Edge.range(Desks::rich, Call.of("likes", 0, 2), 1, 1, 26);
        Edge.taken(Desks::fullOfLosses, Call.of("likes", 11, 1), 0);
        Edge.refused(Desks::fullOfLosses, Call.of("likes", 12, 1), 1);
        Edge.refused(PennyBooks::new, Call.of("likes", 0, 1), 1);
        Edge.sentence("likes: 1 is asked ahead of 6");
        Edge.refused(() -> lostIn(0), Call.of("likes", 0, 27), 1);
        Edge.refused(() -> lostIn(0), Call.of("likes", 1, 1), 1);
    }

    private static PennyBooks lostIn(int week) {
        PennyBooks x = new PennyBooks();
        x.family(0, 0);
        x.edition(0);
        x.loss(0, week);
        return x;
    }

    private static void weeksFrom0To519() {
        Edge.sentence("if these WEEKS are all from 0 to 519");
        for (int n : new int[] {1, 2, 25, 26}) {
            Edge.taken(() -> lostIn(n), Call.of("likes", 0, n), 0);
            Edge.refused(() -> lostIn(n - 1), Call.of("likes", 0, n), 6);
            Edge.refused(() -> lostIn(n - 1), Call.of("fell", 0, -1, 0, n), 6);
            Edge.taken(() -> lostIn(520 - n), Call.of("likes", 0, n), 0);
            if (n > 1) {
                Edge.refused(() -> lostIn(521 - n), Call.of("likes", 0, n), 6);
                Edge.refused(() -> lostIn(521 - n), Call.of("fell", 0, -1, 0, n), 6);
            }
        }
        Edge.refused(() -> lostIn(0), Call.of("likes", 0, 1), 6);
        Edge.taken(() -> lostIn(519), Call.of("likes", 0, 1), 0);
        for (int week : new int[] {1, 519}) {
            PennyBooks x = new PennyBooks();
            x.edition(0);
            for (int i = 0; i < 2; i++) {
                x.family(0, 0);
                Tests.went(x, i, week - 1, 10, "tea");
                Tests.went(x, i, week, 10 + i, "tea");
            }
            x.loss(0, week);
            Tests.fraction(x, Edge.about("a LOSS in " + week), x.fell(0, -1, 0, 1), -1, 1);
        }
    }

    private static void spentFromItOn() {
        Edge.sentence("SPENT in the n WEEKS from it on, less SPENT in the n WEEKS ahead of it");
        int[] weeks = {98, 99, 100, 101, 102, 103};
        for (int n = 1; n <= 2; n++) {
            for (int week : weeks) {
                PennyBooks x = desk(2);
                Tests.went(x, 0, week, 7, "tea");
                int want = week < 101 - n || week > 100 + n ? 0 : week < 101 ? -7 : 7;
                Tests.fraction(x, Edge.about("7 more in " + week + ", n " + n), x.fell(0, -1, 0, n), want, 1);
                x = desk(2);
                Tests.went(x, 1, week, 7, "tea");
                Tests.fraction(x, Edge.about("7 of the other in " + week + ", n " + n), x.fell(0, -1, 0, n), -want, 1);
            }
        }
    }

    /** Two FAMILIES with a LINE in each WEEK from 99 to 102, but that one FAMILY's in one WEEK came. */
    private static PennyBooks lacking(int family, int week) {
        PennyBooks x = new PennyBooks();
        x.edition(0);
        for (int i = 0; i < 2; i++) {
            x.family(0, 0);
            for (int w = 99; w <= 102; w++) {
                if (i == family && w == week) {
                    Tests.came(x, i, w, 10, "tea");
                } else {
                    Tests.went(x, i, w, 10, "tea");
                }
            }
        }
        x.loss(0, 101);
        return x;
    }

    private static void itselfInEach() {
        Edge.sentence("it has itself a LINE that went in each of them");
        Edge.taken(() -> lacking(2, 0), Call.of("fell", 0, -1, 0, 2), 0);
        for (int week = 99; week <= 102; week++) {
            int without = week;
            Edge.refused(() -> lacking(0, without), Call.of("fell", 0, -1, 0, 2), 6);
            Edge.taken(() -> lacking(0, without), Call.of("likes", 0, 2), 1);
            Edge.status(() -> lacking(0, without), Call.of("fell", 0, -1, 0, 1), week == 100 || week == 101 ? 6 : 0);
        }
    }

    private static void likeInEach() {
        Edge.sentence("that have a LINE that went in each of these 2 n WEEKS");
        Edge.taken(() -> lacking(2, 0), Call.of("likes", 0, 2), 1);
        for (int week = 99; week <= 102; week++) {
            int without = week;
            boolean inside = week == 100 || week == 101;
            Edge.taken(() -> lacking(1, without), Call.of("likes", 0, 2), 0);
            Edge.refused(() -> lacking(1, without), Call.of("fell", 0, -1, 0, 2), 6);
            Edge.taken(() -> lacking(1, without), Call.of("likes", 0, 1), inside ? 0 : 1);
        }
    }

    private static void ofItsClass() {
        Edge.sentence("FAMILIES of its CLASS");
        for (int own = 0; own < 4; own++) {
            PennyBooks x = new PennyBooks();
            x.edition(0);
            x.family(own, 0);
            for (int other = 0; other < 4; other++) {
                x.family(other, 0);
            }
            for (int family = 0; family < 5; family++) {
                Tests.went(x, family, 99, 10, "tea");
                Tests.went(x, family, 100, 10 + (family == own + 1 ? 3 : 100), "tea");
            }
            x.loss(0, 100);
            Tests.due(x, Edge.about("CLASS " + own), x.likes(0, 1), 1, 0);
            Tests.fraction(x, Edge.about("CLASS " + own), x.fell(0, -1, 0, 1), 97, 1);
        }
    }

    private static void othersThanIt() {
        Edge.sentence("others than it");
        Edge.taken(() -> desk(1), Call.of("likes", 0, 1), 0);
        Edge.refused(() -> desk(1), Call.of("fell", 0, -1, 0, 1), 6);
        Edge.taken(() -> desk(2), Call.of("likes", 0, 1), 1);
        Edge.taken(() -> desk(3), Call.of("likes", 0, 1), 2);
    }

    private static void noLossInThem() {
        Edge.sentence("and no LOSS in them");
        for (int n = 1; n <= 3; n++) {
            int weeks = n;
            for (int week : new int[] {97, 98, 99, 100, 101, 102, 103, 104}) {
                boolean inside = week >= 101 - n && week <= 100 + n;
                Edge.taken(() -> lostToo(1, week), Call.of("likes", 0, weeks), inside ? 0 : 1);
                Edge.status(() -> lostToo(1, week), Call.of("fell", 0, -1, 0, weeks), inside ? 6 : 0);
                // Its own other LOSSES keep nothing.
                Edge.taken(() -> lostToo(0, week), Call.of("likes", 0, weeks), 1);
                Edge.taken(() -> lostToo(0, week), Call.of("fell", 0, -1, 0, weeks), 0);
            }
        }
    }

    private static PennyBooks lostToo(int family, int week) {
        PennyBooks x = desk(2);
        x.loss(family, week);
        return x;
    }

    private static void thereAreLikeOnes() {
        Edge.sentence("and there are LIKE ones");
        Edge.refused(() -> lostToo(1, 101), Call.of("fell", 0, -1, 0, 1), 6);
        Edge.taken(() -> desk(2), Call.of("fell", 0, -1, 0, 1), 0);
    }

    private static void theFirstAndTheLastFamily() {
        Edge.sentence("LIKE ones: the first FAMILY, too, and the twelfth");
        PennyBooks x = desk(12);
        int loss = x.loss(11, 100);
        Tests.went(x, 0, 100, 11, "tea");
        Tests.due(x, Edge.about("ten: not the first one, that has a LOSS"), x.likes(loss, 2), 10, 0);
        Tests.due(x, Edge.about("eleven, over one WEEK"), x.likes(loss, 1), 11, 0);
        Tests.fraction(x, Edge.about("beside the first one"), x.fell(loss, -1, 0, 1), -1, 1);
        Tests.due(x, Edge.about("ten: not the twelfth, that has a LOSS"), x.likes(0, 3), 10, 0);
    }

    private static void theFirstWeek() {
        Edge.sentence("a LINE that went in each: in WEEK 0 of FAMILY 0, too");
        for (int family = 0; family < 2; family++) {
            PennyBooks x = new PennyBooks();
            x.edition(0);
            x.family(0, 0);
            x.family(0, 0);
            x.loss(family, 1);
            Tests.went(x, 0, 1, 10, "tea");
            Tests.went(x, 1, 0, 10, "tea");
            Tests.went(x, 1, 1, 10, "tea");
            Tests.due(x, Edge.about("FAMILY 0 has none in WEEK 0"), x.fell(0, -1, 0, 1), -1, 6);
            Tests.due(x, Edge.about("LIKE ones"), x.likes(0, 1), family == 0 ? 1 : 0, 0);
            Tests.went(x, 0, 0, 9, "tea");
            Tests.fraction(x, Edge.about("now it has"), x.fell(0, -1, 0, 1), family == 0 ? 1 : -1, 1);
        }
    }

    private static void theMean() {
        Edge.sentence("less the mean of the same of all LIKE ones, without a common divisor, the bottom above 0");
        PennyBooks x = desk(4);
        Tests.fraction(x, Edge.about("0 is 0 by 1"), x.fell(0, -1, 0, 1), 0, 1);
        Tests.went(x, 1, 101, 1, "tea");
        Tests.fraction(x, Edge.about("a third less"), x.fell(0, -1, 0, 1), -1, 3);
        Tests.went(x, 2, 101, 1, "tea");
        Tests.fraction(x, Edge.about("two thirds less"), x.fell(0, -1, 0, 1), -2, 3);
        Tests.went(x, 3, 101, 1, "tea");
        Tests.fraction(x, Edge.about("one less"), x.fell(0, -1, 0, 1), -1, 1);
        Tests.went(x, 0, 101, 1, "tea");
        Tests.fraction(x, Edge.about("none less"), x.fell(0, -1, 0, 1), 0, 1);
        Tests.went(x, 1, 100, 1, "tea");
        Tests.fraction(x, Edge.about("a third more"), x.fell(0, -1, 0, 1), 1, 3);
        Tests.went(x, 2, 100, 5, "tea");
        Tests.fraction(x, Edge.about("two more"), x.fell(0, -1, 0, 1), 2, 1);
    }

    private static void onAKind() {
        Edge.sentence("FELL on a KIND (or all)");
        PennyBooks x = desk(2);
        int e = Tests.edition(x, "if word tea then kind 15;");
        Tests.went(x, 0, 101, 7, "pie");
        Tests.went(x, 0, 101, 5, "tea");
        Tests.came(x, 0, 101, 1000, "pie");
        Tests.fraction(x, Edge.about("KIND 0"), x.fell(0, 0, e, 1), 7, 1);
        Tests.fraction(x, Edge.about("KIND 15"), x.fell(0, 15, e, 1), 5, 1);
        Tests.fraction(x, Edge.about("KIND 1"), x.fell(0, 1, e, 1), 0, 1);
        Tests.fraction(x, Edge.about("all"), x.fell(0, Tests.NONE, e, 1), 12, 1);
        Tests.fraction(x, Edge.about("KIND 0 by the other"), x.fell(0, 0, 0, 1), 12, 1);
        Tests.went(x, 1, 101, 2, "pie");
        Tests.went(x, 1, 101, 9, "tea");
        Tests.fraction(x, Edge.about("KIND 0, less its own"), x.fell(0, 0, e, 1), 5, 1);
        Tests.fraction(x, Edge.about("KIND 15, less its own"), x.fell(0, 15, e, 1), -4, 1);
        Tests.fraction(x, Edge.about("KIND 0 by the other, less its own"), x.fell(0, 0, 0, 1), 1, 1);
    }

    private static void elevenLikeOnes() {
        Edge.sentence("all LIKE ones: as many as there can be");
        PennyBooks x = desk(12);
        Tests.due(x, Edge.about("eleven"), x.likes(0, 3), 11, 0);
        for (int i = 1; i < 12; i++) {
            Tests.went(x, i, 101, i, "tea");
        }
        // 1 to 11 together are 66, by 11.
        Tests.fraction(x, Edge.about("the mean of eleven"), x.fell(0, -1, 0, 3), -6, 1);
        Tests.went(x, 11, 103, 1, "tea");
        Tests.fraction(x, Edge.about("the mean of eleven"), x.fell(0, -1, 0, 3), -67, 11);
        x.loss(5, 103);
        Tests.due(x, Edge.about("ten"), x.likes(0, 3), 10, 0);
        Tests.fraction(x, Edge.about("the mean of ten"), x.fell(0, -1, 0, 3), -31, 5);
        Tests.due(x, Edge.about("still eleven, over fewer WEEKS"), x.likes(0, 2), 11, 0);
    }

    private static void fiftyTwoWeeks() {
        Edge.sentence("over n WEEKS (1 to 26): 52 WEEKS at either end");
        for (int from : new int[] {0, 468}) {
            PennyBooks x = new PennyBooks();
            x.edition(0);
            x.family(0, 0);
            x.family(0, 0);
            int loss = x.loss(0, from + 26);
            for (int week = from; week < from + 52; week++) {
                Tests.due(x, Edge.about("not yet at " + week), x.likes(loss, 26), 0, 0);
                Tests.went(x, 0, week, 20000, "tea");
                Tests.went(x, 1, week, week < from + 26 ? 1 : 20000, "tea");
            }
            Tests.due(x, Edge.about("all 52"), x.likes(loss, 26), 1, 0);
            Tests.fraction(x, Edge.about("all 52"), x.fell(loss, -1, 0, 26), -26 * 19999, 1);
        }
    }

    private static void asKnown() {
        Edge.sentence("AS OF a DAY all is told by what was KNOWN by then: LIKE ones, too");
        PennyBooks x = desk(3);
        x.family(0, 0);
        Tests.went(x, 3, 100, 10, "tea");
        x.words(1, 0, 0);
        x.line(3, 101, 0, 13, false, 0, 10);
        x.reading(0, 10, 10);
        x.asof(9);
        Tests.due(x, Edge.about("as of 9"), x.likes(0, 1), 2, 0);
        Tests.fraction(x, Edge.about("as of 9"), x.fell(0, -1, 0, 1), 0, 1);
        x.asof(10);
        Tests.due(x, Edge.about("as of 10"), x.likes(0, 1), 3, 0);
        Tests.fraction(x, Edge.about("as of 10"), x.fell(0, -1, 0, 1), -1, 1);
    }
}
