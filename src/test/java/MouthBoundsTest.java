/** Promises 28 to 32: each sentence that names a boundary, on both sides of it. */
public final class MouthBoundsTest {
    public static void main(String[] args) {
        memberNumbers();
        notAheadOfBeingBorn();
        bothWeeksInIt();
        atMost40Members();
        ages();
        oldest();
        scaleNumbers();
        scaleAtFirst();
        mouthsNumbers();
        allTogether();
        shareNumbers();
        shareIfAboveZero();
        shareTold();
        shareOfEach();
        priceNumbers();
        yearsOfPrices();
        theMiddle();
        fractionsCompared();
        greatestNumbers();
        shutAtFirst();
        shutFromOneToTwelve();
        whoseLines();
        priceOrder();
        Tests.end();
    }

    private static void memberNumbers() {
        Edge.sentence("MEMBERS: of a FAMILY, born in a WEEK (-5,200 to 519)");
        Call call = Call.of("member", 0, -100, 30, 40);
        Edge.range(Desks::rich, call, 0, 0, 3);
        Edge.range(Desks::rich, Call.of("member", 0, 0, 519, 519), 1, -5200, 519);
        Edge.sentence("there from a WEEK to a WEEK (0 to 519)");
        Edge.range(Desks::rich, Call.of("member", 0, -100, 30, 519), 2, 0, 519);
        Edge.range(Desks::rich, Call.of("member", 0, -100, 0, 40), 3, 0, 519);
        Edge.sentence("from a WEEK to a WEEK (both in it): the last is not ahead of the first");
        Edge.taken(Desks::rich, call.with(3, 30), 1);
        Edge.refused(Desks::rich, call.with(3, 29), 1);
        Edge.taken(Desks::rich, call.with(2, 40), 1);
        Edge.refused(Desks::rich, call.with(2, 41), 1);
    }

    private static void notAheadOfBeingBorn() {
        Edge.sentence("not ahead of being born");
        for (int born : new int[] {0, 30, 518, 519}) {
            Edge.taken(Desks::rich, Call.of("member", 0, born, born, 519), 1);
            if (born > 0) {
                Edge.refused(Desks::rich, Call.of("member", 0, born, born - 1, 519), 1);
                Edge.refused(Desks::rich, Call.of("member", 0, born, 0, 519), 1);
            }
        }
        Edge.taken(Desks::rich, Call.of("member", 0, -1, 0, 519), 1);
        Edge.refused(Desks::rich, Call.of("member", 0, 1, 0, 519), 1);
        Edge.refused(Desks::rich, Call.of("member", 0, -1, -1, 519), 1);
    }

    private static PennyBooks oneFamily() {
        PennyBooks x = new PennyBooks();
        x.family(0, 0);
        return x;
    }

    private static void bothWeeksInIt() {
        Edge.sentence("there from a WEEK to a WEEK (both in it)");
        PennyBooks x = oneFamily();
        x.family(0, 0);
        x.member(0, -2000, 30, 40);
        int[] weeks = {0, 29, 30, 31, 39, 40, 41, 519};
        int[] mouths = {0, 0, 100, 100, 100, 100, 0, 0};
        for (int i = 0; i < weeks.length; i++) {
            Tests.due(x, Edge.about("week " + weeks[i]), x.mouths(0, weeks[i]), mouths[i], 0);
            Tests.due(x, Edge.about("not of the other"), x.mouths(1, weeks[i]), 0, 0);
        }
        x.member(1, 519, 519, 519);
        Tests.due(x, Edge.about("the last WEEK alone"), x.mouths(1, 519), 30, 0);
        Tests.due(x, Edge.about("the one ahead"), x.mouths(1, 518), 0, 0);
        x.member(1, 0, 0, 0);
        Tests.due(x, Edge.about("the first WEEK alone"), x.mouths(1, 0), 30, 0);
        Tests.due(x, Edge.about("the next one"), x.mouths(1, 1), 0, 0);
    }

    private static void atMost40Members() {
        Edge.sentence("MEMBERS, at most 40");
        PennyBooks x = oneFamily();
        x.family(0, 0);
        for (int i = 1; i <= 40; i++) {
            Tests.due(x, Edge.about("the " + i + "th"), x.member(0, -5200, 0, 519), 0);
            Tests.due(x, Edge.about(i + " mouths"), x.mouths(0, 519), 100 * i, 0);
        }
        Tests.due(x, Edge.about("a 41st"), x.member(0, -5200, 0, 519), 4);
        Tests.due(x, Edge.about("of another FAMILY, too"), x.member(1, -5200, 0, 519), 4);
        Tests.due(x, Edge.about("40 mouths"), x.mouths(0, 519), 4000, 0);
        Edge.refused(Desks::fullOfMembers, Call.of("member", 0, -100, 30, 40), 4);
        Edge.sentence("member: 1 is asked ahead of 4");
        Edge.refused(Desks::fullOfMembers, Call.of("member", 4, -100, 30, 40), 1);
        Edge.refused(Desks::fullOfMembers, Call.of("member", 0, -100, 30, 29), 1);
        Edge.refused(Desks::fullOfMembers, Call.of("member", 0, 31, 30, 40), 1);
    }

    private static void ages() {
        Edge.sentence("AGE: years of 52 WEEKS, rounded down; AGES 0 to 4, 5 to 9, 10 to 14, 15 and on");
        int[] scale = {30, 50, 70, 100};
        for (int step = 1; step < 4; step++) {
            int weeks = 5 * step * 52;
            for (int week : new int[] {0, 200, 519}) {
                PennyBooks x = oneFamily();
                x.member(0, week - weeks + 1, Math.max(0, week - weeks + 1), 519);
                Tests.due(x, Edge.about("a WEEK less than " + 5 * step), x.mouths(0, week), scale[step - 1], 0);
                x = oneFamily();
                x.member(0, week - weeks, Math.max(0, week - weeks), 519);
                Tests.due(x, Edge.about("just " + 5 * step), x.mouths(0, week), scale[step], 0);
            }
        }
        PennyBooks x = oneFamily();
        x.member(0, 519, 519, 519);
        Tests.due(x, Edge.about("0, in the WEEK of being born"), x.mouths(0, 519), 30, 0);
    }

    private static void oldest() {
        Edge.sentence("15 and on: born in -5,200");
        PennyBooks x = oneFamily();
        x.member(0, -5200, 0, 519);
        Tests.due(x, Edge.about("100 years"), x.mouths(0, 0), 100, 0);
        Tests.due(x, Edge.about("109 years"), x.mouths(0, 519), 100, 0);
    }

    private static void scaleNumbers() {
        Edge.sentence("so many hundredths of a mouth (0 to 100)");
        for (int at = 0; at < 4; at++) {
            Edge.range(Desks::rich, Call.of("scale", 1, 2, 3, 4), at, 0, 100);
        }
        for (int at = 0; at < 4; at++) {
            PennyBooks x = oneFamily();
            x.member(0, -260 * at, 0, 519);
            int number = 90 + at;
            x.scale(at == 0 ? number : 1, at == 1 ? number : 1, at == 2 ? number : 1, at == 3 ? number : 1);
            Tests.due(x, Edge.about("the one of AGE " + 5 * at), x.mouths(0, 0), number, 0);
        }
    }

    private static void scaleAtFirst() {
        Edge.sentence("30, 50, 70, 100 at first");
        int[] scale = {30, 50, 70, 100};
        for (int at = 0; at < 4; at++) {
            PennyBooks x = oneFamily();
            x.member(0, -260 * at, 0, 519);
            Tests.due(x, Edge.about("AGE " + 5 * at), x.mouths(0, 0), scale[at], 0);
        }
    }

    private static void mouthsNumbers() {
        Edge.sentence("mouths (1)");
        Edge.range(Desks::rich, Call.of("mouths", 0, 100), 0, 0, 3);
        Edge.range(Desks::rich, Call.of("mouths", 0, 100), 1, 0, 519);
        Edge.refused(PennyBooks::new, Call.of("mouths", 0, 0), 1);
    }

    private static void allTogether() {
        Edge.sentence("MOUTHS of a FAMILY in a WEEK: all hundredths together");
        Edge.taken(Desks::rich, Call.of("mouths", 0, 100), 130);
        Edge.taken(Desks::rich, Call.of("mouths", 0, 49), 99);
        Edge.taken(Desks::rich, Call.of("mouths", 0, 50), 130);
        Edge.taken(Desks::rich, Call.of("mouths", 0, 150), 130);
        Edge.taken(Desks::rich, Call.of("mouths", 0, 151), 99);
        Edge.taken(Desks::rich, Call.of("mouths", 1, 100), 0);
        Edge.taken(Desks::rich, Call.of("mouths", 2, 0), 122);
    }

    private static void shareNumbers() {
        Edge.sentence("share (1)");
        Call call = Call.of("share", 0, 100, 1, 0);
        Edge.range(Desks::rich, call, 0, 0, 0, 3, 6);
        Edge.range(Desks::rich, call, 1, 0, 519);
        Edge.range(Desks::rich, call, 2, -1, 15);
        Edge.range(Desks::rich, call, 3, 0, 1);
        Edge.refused(PennyBooks::new, call, 1);
        Edge.sentence("share: 1 is asked ahead of 6");
        Edge.refused(Desks::rich, Call.of("share", 1, 100, 16, 0), 1);
        Edge.refused(Desks::rich, Call.of("share", 1, 100, 1, 2), 1);
        Edge.refused(Desks::rich, Call.of("share", 1, 520, 1, 0), 1);
    }

    private static void shareIfAboveZero() {
        Edge.sentence("a FRACTION, if these are above 0");
        Edge.refused(Desks::rich, Call.of("share", 1, 100, 1, 0), 6);
        Edge.refused(() -> scaled(0), Call.of("share", 0, 100, 1, 0), 6);
        Edge.taken(() -> scaled(1), Call.of("share", 0, 100, 1, 0), 1);
        PennyBooks x = scaled(1);
        x.member(1, -2000, 101, 101);
        Tests.due(x, Edge.about("the WEEK ahead"), x.share(1, 100, 1, 0), -1, 6);
        Tests.fraction(x, Edge.about("the WEEK itself"), x.share(1, 101, 1, 0), 1000, 1);
        Tests.due(x, Edge.about("the WEEK behind"), x.share(1, 102, 1, 0), -1, 6);
    }

    /** Only AGES of 15 and on count, so many hundredths. */
    private static PennyBooks scaled(int hundredths) {
        PennyBooks x = Desks.rich();
        x.scale(0, 0, 0, hundredths);
        return x;
    }

    private static void shareTold() {
        Edge.sentence("SPENT on a KIND, times 100, by MOUTHS, without a common divisor");
        PennyBooks x = Desks.rich();
        Tests.fraction(x, Edge.about("24 by 130"), x.share(0, 100, 1, 0), 240, 13);
        Tests.fraction(x, Edge.about("all"), x.share(0, 100, -1, 0), 640, 13);
        Tests.fraction(x, Edge.about("0 is 0 by 1"), x.share(0, 100, 5, 0), 0, 1);
        x.scale(100, 100, 100, 100);
        Tests.fraction(x, Edge.about("24 by 200"), x.share(0, 100, 1, 0), 12, 1);
        x.scale(1, 0, 0, 2);
        Tests.fraction(x, Edge.about("24 by 3"), x.share(0, 100, 1, 0), 800, 1);
        x = oneFamily();
        x.edition(0);
        for (int i = 0; i < 40; i++) {
            x.member(0, -5200, 0, 519);
        }
        for (int i = 0; i < 100; i++) {
            Tests.went(x, 0, 7, 20000, "tea");
        }
        Tests.fraction(x, Edge.about("the most by the most"), x.share(0, 7, 0, 0), 50000, 1);
        Tests.went(x, 0, 7, 1, "tea");
        Tests.fraction(x, Edge.about("a penny more"), x.share(0, 7, 0, 0), 2000001, 40);
    }

    private static void shareOfEach() {
        Edge.sentence("SHARE is that of the FAMILY, WEEK, KIND and EDITION asked");
        PennyBooks x = new PennyBooks();
        for (int e = 0; e < 4; e++) {
            Tests.edition(x, "if pence > 0 then kind " + (e + 5) + ";");
        }
        for (int f = 0; f < 5; f++) {
            x.family(0, 0);
            x.member(f, -2000, 0, 519);
            x.member(f, -2000, 0, 2 * f + 1);
            Tests.went(x, f, 2 * f, 10 * f + 1, "tea");
            Tests.went(x, f, 2 * f + 2, 10 * f + 3, "tea");
        }
        for (int f = 0; f < 5; f++) {
            for (int e = 0; e < 4; e++) {
                String whose = f + " by " + e;
                Tests.fraction(x, Edge.about(whose), x.share(f, 2 * f, e + 5, e), 10 * f + 1, 2);
                Tests.fraction(x, Edge.about(whose), x.share(f, 2 * f + 2, e + 5, e), 10 * f + 3, 1);
                Tests.fraction(x, Edge.about(whose), x.share(f, 2 * f + 2, Tests.NONE, e), 10 * f + 3, 1);
                Tests.fraction(x, Edge.about(whose), x.share(f, 2 * f + 2, e + 4, e), 0, 1);
                Tests.fraction(x, Edge.about(whose), x.share(f, 2 * f + 1, e + 5, e), 0, 1);
            }
        }
    }

    private static void priceNumbers() {
        Edge.sentence("price (1): KIND, YEAR, EDITION, what 0 to 2");
        Call call = Call.of("price", 1, 1, 0, 0);
        Edge.range(Desks::rich, call, 0, 0, 7, 15, 0);
        Edge.refused(Desks::rich, call.with(0, Tests.NONE), 1);
        Edge.range(Desks::rich, call, 1, 0, 6, 9, 6);
        Edge.range(Desks::rich, call, 2, 0, 0, 1, 6);
        Edge.range(Desks::rich, call, 3, 0, 2);
        Edge.refused(PennyBooks::new, call, 1);
    }

    /** Three FAMILIES, open from one on; WORD tea is KIND 3 with as many UNITS as the SHOP's number. */
    private static PennyBooks shops() {
        PennyBooks x = new PennyBooks();
        for (int i = 0; i < 12; i++) {
            x.family(0, 0);
        }
        Tests.edition(x, "if word tea then kind 3 units shop;");
        x.rules(10, 1);
        return x;
    }

    private static void line(PennyBooks x, int family, int week, int pence, int units) {
        x.words(Tests.word("tea"), 0, 0);
        x.line(family, week, units, pence, false, 0, 0);
    }

    private static void yearsOfPrices() {
        Edge.sentence("PRICES of a KIND in a YEAR");
        for (int year = 0; year < 10; year++) {
            PennyBooks x = shops();
            line(x, 0, 52 * year, 7, 1);
            line(x, 0, 52 * year + 51, 9, 1);
            Tests.fraction(x, Edge.about("its first WEEK"), x.price(3, year, 0, 0), 7, 1);
            Tests.fraction(x, Edge.about("its last WEEK"), x.price(3, year, 0, 2), 9, 1);
            if (year > 0) {
                Tests.due(x, Edge.about("not the YEAR ahead"), x.price(3, year - 1, 0, 0), -1, 6);
            }
            if (year < 9) {
                Tests.due(x, Edge.about("not the next YEAR"), x.price(3, year + 1, 0, 0), -1, 6);
            }
        }
    }

    private static void theMiddle() {
        Edge.sentence("the least, the one in the middle (of an even number the lesser of both), the greatest");
        int[] middles = {1, 1, 2, 2, 3, 3, 4};
        for (int many = 1; many <= 7; many++) {
            PennyBooks up = shops();
            PennyBooks down = shops();
            for (int i = 1; i <= many; i++) {
                line(up, i % 3, 60, i, 1);
                line(down, i % 3, 60, many + 1 - i, 1);
            }
            for (PennyBooks x : new PennyBooks[] {up, down}) {
                Tests.fraction(x, Edge.about("least of " + many), x.price(3, 1, 0, 0), 1, 1);
                Tests.fraction(x, Edge.about("middle of " + many), x.price(3, 1, 0, 1), middles[many - 1], 1);
                Tests.fraction(x, Edge.about("greatest of " + many), x.price(3, 1, 0, 2), many, 1);
            }
        }
        PennyBooks x = Desks.fullOfLines();
        x.edition(0);
        x.rules(10, 1);
        // LINES 0 to 51 of the first YEAR have 1 to 52 pence.
        Tests.fraction(x, Edge.about("the middle of 52"), x.price(0, 0, 0, 1), 26, 1);
        Tests.fraction(x, Edge.about("the greatest of 52"), x.price(0, 0, 0, 2), 52, 1);
        x = shops();
        for (int i = 0; i < 200; i++) {
            line(x, 0, 60, 200 - i, 1);
        }
        Tests.fraction(x, Edge.about("the middle of 200"), x.price(3, 1, 0, 1), 100, 1);
        Tests.fraction(x, Edge.about("the greatest of 200"), x.price(3, 1, 0, 2), 200, 1);
    }

    private static void fractionsCompared() {
        Edge.sentence("PENCE by UNITS of each LINE (FRACTIONS)");
        PennyBooks x = shops();
        line(x, 0, 60, 7, 3);
        line(x, 0, 60, 9, 4);
        line(x, 0, 60, 5, 2);
        // 2.33.., 2.25 and 2.5: not rounded down.
        Tests.fraction(x, Edge.about("least"), x.price(3, 1, 0, 0), 9, 4);
        Tests.fraction(x, Edge.about("middle"), x.price(3, 1, 0, 1), 7, 3);
        Tests.fraction(x, Edge.about("greatest"), x.price(3, 1, 0, 2), 5, 2);
        line(x, 0, 60, 6, 8);
        Tests.fraction(x, Edge.about("without a common divisor"), x.price(3, 1, 0, 0), 3, 4);
        line(x, 0, 60, 8, 4);
        line(x, 0, 60, 4, 2);
        Tests.fraction(x, Edge.about("like ones"), x.price(3, 1, 0, 1), 2, 1);
    }

    private static void greatestNumbers() {
        Edge.sentence("PENCE by UNITS: 1 to 20,000 by 1 to 1,000");
        PennyBooks x = new PennyBooks();
        x.family(0, 0);
        x.rules(10, 1);
        int e = Tests.edition(x, "if word tea then kind 1 units 1000; if word pie then kind 1 units 999;");
        Tests.went(x, 0, 0, 19999, "tea");
        Tests.went(x, 0, 0, 20000, "pie");
        Tests.went(x, 0, 0, 20000, "tea");
        Tests.went(x, 0, 0, 1, "tea");
        Tests.fraction(x, Edge.about("least"), x.price(1, 0, e, 0), 1, 1000);
        Tests.fraction(x, Edge.about("middle"), x.price(1, 0, e, 1), 19999, 1000);
        Tests.fraction(x, Edge.about("greatest"), x.price(1, 0, e, 2), 20000, 999);
    }

    private static void shutAtFirst() {
        Edge.sentence("SHUT they are, if fewer than SHUT (3 at first) FAMILIES have such LINES");
        for (int families = 1; families <= 4; families++) {
            PennyBooks x = new PennyBooks();
            x.edition(0);
            for (int i = 0; i < families; i++) {
                x.family(0, 0);
                Tests.went(x, i, 0, 5, "tea");
                Tests.went(x, i, 0, 6, "tea");
            }
            boolean shut = families < 3;
            Tests.due(x, Edge.about(families + " FAMILIES"), x.price(0, 0, 0, 0), shut ? -1 : 1, shut ? 7 : 0);
        }
    }

    private static PennyBooks shared(int families, int shut) {
        PennyBooks x = shops();
        for (int i = 0; i < families; i++) {
            line(x, 11 - i, 0, 5, 1);
        }
        x.rules(10, shut);
        return x;
    }

    private static void shutFromOneToTwelve() {
        Edge.sentence("fewer than SHUT (1 to 12)");
        for (int shut = 1; shut <= 12; shut++) {
            int just = shut;
            Edge.taken(() -> shared(just, just), Call.of("price", 3, 0, 0, 1), 1);
            if (shut > 1) {
                Edge.refused(() -> shared(just - 1, just), Call.of("price", 3, 0, 0, 1), 7);
            }
        }
    }

    private static void whoseLines() {
        Edge.sentence("of each LINE that went (as known)");
        PennyBooks x = shared(2, 3);
        Tests.due(x, Edge.about("two"), x.price(3, 0, 0, 0), -1, 7);
        line(x, 11, 0, 5, 1);
        Tests.due(x, Edge.about("another of the same"), x.price(3, 0, 0, 0), -1, 7);
        Tests.came(x, 0, 0, 5, "tea");
        Tests.due(x, Edge.about("one that came"), x.price(3, 0, 0, 0), -1, 7);
        Tests.went(x, 0, 0, 5, "pie");
        Tests.due(x, Edge.about("one of another KIND"), x.price(3, 0, 0, 0), -1, 7);
        line(x, 0, 52, 5, 1);
        Tests.due(x, Edge.about("one of another YEAR"), x.price(3, 0, 0, 0), -1, 7);
        x.words(Tests.word("tea"), 0, 0);
        x.line(0, 0, 1, 4, false, 0, 10);
        x.asof(9);
        Tests.due(x, Edge.about("one not known"), x.price(3, 0, 0, 0), -1, 7);
        x.asof(10);
        Tests.fraction(x, Edge.about("one known"), x.price(3, 0, 0, 0), 4, 1);
    }

    private static void priceOrder() {
        Edge.sentence("price (1; 6: no LINE; 7)");
        Edge.refused(() -> shared(0, 12), Call.of("price", 3, 0, 0, 0), 6);
        Edge.refused(() -> shared(0, 1), Call.of("price", 3, 0, 0, 0), 6);
        Edge.refused(() -> shared(1, 12), Call.of("price", 3, 0, 0, 0), 7);
        Edge.refused(() -> shared(11, 12), Call.of("price", 3, 0, 0, 2), 7);
        Edge.refused(() -> shared(1, 12), Call.of("price", 4, 0, 0, 0), 6);
        Edge.refused(() -> shared(1, 12), Call.of("price", 3, 0, 0, 3), 1);
        Edge.refused(() -> shared(0, 12), Call.of("price", 3, 10, 0, 0), 1);
        Edge.refused(Desks::rich, Call.of("price", 2, 1, 0, 0), 7);
        Edge.refused(Desks::rich, Call.of("price", 4, 1, 0, 0), 6);
    }
}
