import java.util.ArrayList;
import java.util.List;

/** Promises 25 to 27: each sentence that names a boundary, on both sides of it. */
public final class SundriesBoundsTest {
    /** WORDS a to o are KINDS 1 to 15, with as many UNITS as the SHOP's number; all others are SUNDRIES. */
    private static final String KINDS = "if word a then kind 1 units shop; if word b then kind 2 units shop;"
        + " if word o then kind 15 units shop;";

    public static void main(String[] args) {
        rulesNumbers();
        nearAtFirst();
        nearBothWays();
        nearAtTheEnds();
        ownWeek();
        whichLines();
        kindsOneAndOn();
        atMost2000Pence();
        waysRefused();
        nearestLine();
        nearestInAnyOrder();
        roundedDown();
        oneAtLeast();
        sumOfOneWeek();
        weeksOfTheirOwn();
        askedAfterAnother();
        ofTheLineAsked();
        theLastLine();
        twentyAtMost();
        zeroToMost();
        together();
        spanRefused();
        greatestCount();
        Tests.end();
    }

    private static PennyBooks desk() {
        PennyBooks x = new PennyBooks();
        x.family(0, 0);
        x.family(0, 0);
        Tests.edition(x, KINDS);
        return x;
    }

    private static int line(PennyBooks x, int week, int pence, int units, String word) {
        x.words(Tests.word(word), 0, 0);
        return x.line(0, week, units, pence, false, 0, 0);
    }

    /** LINE 0: so many pence of SUNDRIES in WEEK 100. */
    private static PennyBooks mixed(int pence) {
        PennyBooks x = desk();
        line(x, 100, pence, 0, "misc");
        return x;
    }

    private static void span(PennyBooks x, String call, int kind, int fewest, int most) {
        Tests.due(x, Edge.about(call), x.span(0, 0, kind, 0), fewest, fewest == -1 ? 6 : 0);
        Tests.due(x, Edge.about(call), x.span(0, 0, kind, 1), most, fewest == -1 ? 6 : 0);
    }

    private static void rulesNumbers() {
        Edge.sentence("NEAR (1 to 60)");
        Edge.range(Desks::rich, Call.of("rules", 5, 5), 0, 1, 60);
        Edge.sentence("SHUT (1 to 12)");
        Edge.range(Desks::rich, Call.of("rules", 5, 5), 1, 1, 12);
        Edge.sentence("rules: neither changes where one can't be");
        Edge.refused(Desks::rich, Call.of("rules", 60, 13), 1);
        Edge.refused(Desks::rich, Call.of("rules", 61, 12), 1);
    }

    private static void nearAtFirst() {
        Edge.sentence("not more than NEAR (10 at first) from its own");
        for (int away : new int[] {9, 10, 11}) {
            for (int sign : new int[] {-1, 1}) {
                PennyBooks x = mixed(5);
                line(x, 100 + sign * away, 5, 1, "a");
                Tests.due(x, Edge.about(sign * away + " away"), x.ways(0, 0), away <= 10 ? 1 : 0, 0);
                span(x, sign * away + " away", 1, away <= 10 ? 1 : -1, away <= 10 ? 1 : -1);
            }
        }
    }

    private static void nearBothWays() {
        Edge.sentence("NEAR (1 to 60): not more than so many WEEKS");
        for (int near : new int[] {1, 2, 59, 60}) {
            for (int away : new int[] {near - 1, near, near + 1}) {
                for (int sign : new int[] {-1, 1}) {
                    PennyBooks x = mixed(5);
                    x.rules(near, 3);
                    line(x, 100 + sign * away, 5, 1, "a");
                    boolean thing = away >= 1 && away <= near;
                    Tests.due(x, Edge.about(sign * away + " of " + near), x.ways(0, 0), thing ? 1 : 0, 0);
                    span(x, sign * away + " of " + near, 1, thing ? 1 : -1, thing ? 1 : -1);
                }
            }
        }
    }

    private static void nearAtTheEnds() {
        Edge.sentence("WEEKS are 0 to 519: SUNDRIES at either end");
        for (int own : new int[] {0, 519}) {
            int far = own == 0 ? 60 : 459;
            PennyBooks x = desk();
            line(x, own, 7, 0, "misc");
            x.rules(60, 3);
            line(x, far, 7, 1, "a");
            Tests.due(x, Edge.about("sixty away"), x.ways(0, 0), 1, 0);
            x.rules(59, 3);
            Tests.due(x, Edge.about("59 are too few"), x.ways(0, 0), 0, 0);
        }
    }

    private static void ownWeek() {
        Edge.sentence("in other WEEKS");
        PennyBooks x = mixed(5);
        line(x, 100, 5, 1, "a");
        Tests.due(x, Edge.about("its own"), x.ways(0, 0), 0, 0);
        span(x, "its own", 1, -1, -1);
        line(x, 101, 5, 1, "a");
        line(x, 100, 5, 9, "a");
        Tests.due(x, Edge.about("another, too"), x.ways(0, 0), 1, 0);
        x.reading(0, 10, 0);
        Tests.due(x, Edge.about("its own does not add to MOST"), x.ways(0, 0), 0, 0);
    }

    private static void whichLines() {
        Edge.sentence("of which the FAMILY has LINES that went (as known)");
        PennyBooks x = mixed(5);
        x.words(Tests.word("a"), 0, 0);
        x.line(1, 99, 1, 5, false, 0, 0);
        Tests.due(x, Edge.about("of another FAMILY"), x.ways(0, 0), 0, 0);
        x.words(Tests.word("a"), 0, 0);
        x.line(0, 99, 1, 5, true, 0, 0);
        Tests.due(x, Edge.about("that came"), x.ways(0, 0), 0, 0);
        x.words(Tests.word("a"), 0, 0);
        x.line(0, 99, 1, 5, false, 0, 10);
        x.asof(9);
        Tests.due(x, Edge.about("not known"), x.ways(0, 0), 0, 0);
        span(x, "not known", 1, -1, -1);
        x.asof(10);
        Tests.due(x, Edge.about("known"), x.ways(0, 0), 1, 0);
        span(x, "known", 1, 1, 1);
        x.reading(3, 4, 20);
        Tests.due(x, Edge.about("at another price later"), x.ways(0, 0), 1, 0);
        x.asof(20);
        Tests.due(x, Edge.about("at another price"), x.ways(0, 0), 0, 0);
    }

    private static void kindsOneAndOn() {
        Edge.sentence("THINGS it may hold: KINDS 1 and on");
        PennyBooks x = mixed(6);
        line(x, 99, 6, 1, "misc");
        Tests.due(x, Edge.about("SUNDRIES are no THING"), x.ways(0, 0), 0, 0);
        line(x, 99, 6, 1, "a");
        line(x, 99, 6, 1, "o");
        Tests.due(x, Edge.about("KINDS 1 and 15"), x.ways(0, 0), 2, 0);
        span(x, "KIND 1", 1, 0, 1);
        span(x, "KIND 15", 15, 0, 1);
        span(x, "KIND 2", 2, -1, -1);
    }

    private static void atMost2000Pence() {
        Edge.sentence("SUNDRIES: with at most 2,000 PENCE");
        for (int pence : new int[] {1, 1999, 2000}) {
            Edge.taken(() -> priced(pence, pence), Call.of("ways", 0, 0), 1);
            Edge.taken(() -> priced(pence, pence), Call.of("span", 0, 0, 1, 0), 1);
        }
        for (int pence : new int[] {2001, 20000}) {
            Edge.refused(() -> priced(pence, pence), Call.of("ways", 0, 0), 6);
            Edge.refused(() -> priced(pence, pence), Call.of("span", 0, 0, 1, 0), 6);
        }
        PennyBooks x = priced(2000, 1990);
        line(x, 101, 10, 1, "b");
        Tests.due(x, Edge.about("two THINGS"), x.ways(0, 0), 1, 0);
        span(x, "one of the first", 1, 1, 1);
        span(x, "one of the second", 2, 1, 1);
        span(x, "no third", 15, -1, -1);
        x = priced(2001, 2000);
        x.reading(0, 2000, 5);
        Tests.due(x, Edge.about("as read"), x.ways(0, 0), 1, 0);
        x.asof(4);
        Tests.due(x, Edge.about("as written"), x.ways(0, 0), -1, 6);
    }

    /** So many pence of SUNDRIES, and one THING at a price. */
    private static PennyBooks priced(int pence, int price) {
        PennyBooks x = mixed(pence);
        line(x, 99, price, 1, "a");
        return x;
    }

    private static void waysRefused() {
        Edge.sentence("ways (1; 6: not KNOWN, it came, another KIND, more PENCE)");
        Call call = Call.of("ways", 4, 0);
        Edge.taken(Desks::rich, call, 2);
        Edge.range(Desks::rich, call, 0, 0, 6, Desks.LINES - 1, 6);
        Edge.range(Desks::rich, call, 1, 0, 1);
        Edge.refused(Desks::rich, call.with(0, 15), 6);
        Edge.refused(Desks::rich, call.with(0, 5), 6);
        Edge.refused(Desks::rich, call.with(0, 14), 6);
        Edge.refused(Desks::rich, call.with(0, 15).with(1, 2), 1);
        Edge.refused(PennyBooks::new, call, 1);
        Edge.sentence("ways: no THING, so no WAY: 0 with STATUS 0");
        Edge.taken(Desks::rich, call.with(1, 1), 0);
        Edge.taken(() -> mixed(1), Call.of("ways", 0, 0), 0);
    }

    private static void nearestLine() {
        Edge.sentence("nearest in WEEKS (of like ones the earlier WEEK, then the lesser number)");
        PennyBooks x = mixed(60);
        line(x, 103, 60, 1, "a");
        Tests.due(x, Edge.about("the only one, at 60"), x.ways(0, 0), 1, 0);
        line(x, 102, 59, 1, "a");
        Tests.due(x, Edge.about("nearer, at 59"), x.ways(0, 0), 0, 0);
        line(x, 98, 60, 1, "a");
        Tests.due(x, Edge.about("as near, but earlier, at 60"), x.ways(0, 0), 1, 0);
        line(x, 98, 59, 1, "a");
        Tests.due(x, Edge.about("in that WEEK, but of a greater number"), x.ways(0, 0), 1, 0);
        line(x, 102, 59, 1, "a");
        Tests.due(x, Edge.about("as near, but later"), x.ways(0, 0), 1, 0);
        line(x, 97, 59, 1, "a");
        Tests.due(x, Edge.about("earlier, but farther"), x.ways(0, 0), 1, 0);
        line(x, 101, 59, 1, "a");
        Tests.due(x, Edge.about("nearer, though later"), x.ways(0, 0), 0, 0);
        line(x, 99, 60, 1, "a");
        Tests.due(x, Edge.about("as near, but earlier again"), x.ways(0, 0), 1, 0);
    }

    /** LINES of four WEEKS in every order, with SUNDRIES between them: the nearest is the one in 98. */
    private static void nearestInAnyOrder() {
        Edge.sentence("nearest in WEEKS (of like ones the earlier WEEK): however the LINES came");
        for (int order = 0; order < 24; order++) {
            List<Integer> weeks = new ArrayList<>(List.of(97, 98, 102, 103));
            PennyBooks x = desk();
            int rest = order;
            for (int i = 4; i > 0; i--) {
                int week = weeks.remove(rest % i);
                rest /= i;
                line(x, week, week, 1, "a");
                line(x, 100, 98, 0, "misc");
                line(x, 101, 102, 0, "misc");
            }
            for (int line = 1; line < 12; line += 3) {
                Tests.due(x, Edge.about("98 in 100, order " + order), x.ways(line, 0), 1, 0);
                Tests.due(x, Edge.about("102 in 101, order " + order), x.ways(line + 1, 0), 1, 0);
            }
        }
    }

    private static void roundedDown() {
        Edge.sentence("PENCE by UNITS, rounded down");
        int[] pence = {19, 20, 29, 30};
        int[] price = {9, 10, 14, 15};
        for (int i = 0; i < pence.length; i++) {
            for (int own = price[i] - 1; own <= price[i] + 1; own++) {
                PennyBooks x = mixed(own);
                line(x, 99, pence[i], 2, "a");
                Tests.due(x, Edge.about(pence[i] + " by 2 for " + own), x.ways(0, 0), own == price[i] ? 1 : 0, 0);
            }
        }
    }

    private static void oneAtLeast() {
        Edge.sentence("PRICE: 1 at least");
        for (int pence : new int[] {1, 8, 9, 17, 18}) {
            PennyBooks x = mixed(9);
            line(x, 99, pence, 9, "a");
            Tests.due(x, Edge.about(pence + " by 9"), x.ways(0, 0), pence < 18 ? 1 : 0, 0);
            span(x, pence + " by 9", 1, pence < 18 ? 9 : -1, pence < 18 ? 9 : -1);
        }
        PennyBooks x = new PennyBooks();
        x.family(0, 0);
        Tests.edition(x, "if pence > 100 then kind 1 units 1000;");
        Tests.went(x, 0, 100, 20, "misc");
        Tests.went(x, 0, 99, 999, "tea");
        Tests.due(x, Edge.about("999 by 1,000"), x.span(0, 0, 1, 0), 20, 0);
        x.reading(1, 1999, 0);
        Tests.due(x, Edge.about("1,999 by 1,000"), x.span(0, 0, 1, 0), 20, 0);
        x.reading(1, 2000, 0);
        Tests.due(x, Edge.about("2,000 by 1,000"), x.span(0, 0, 1, 0), 10, 0);
    }

    private static void sumOfOneWeek() {
        Edge.sentence("MOST of it: the greatest sum of UNITS of such LINES in one WEEK");
        PennyBooks x = mixed(7);
        line(x, 99, 3, 3, "a");
        line(x, 101, 2, 2, "a");
        line(x, 101, 2, 2, "a");
        line(x, 102, 3, 3, "a");
        Tests.due(x, Edge.about("4 at most"), x.ways(0, 0), 0, 0);
        x.reading(0, 4, 0);
        Tests.due(x, Edge.about("4 are taken"), x.ways(0, 0), 1, 0);
        x.reading(0, 5, 0);
        Tests.due(x, Edge.about("5 are not"), x.ways(0, 0), 0, 0);
        line(x, 102, 2, 2, "a");
        Tests.due(x, Edge.about("5 in the third WEEK"), x.ways(0, 0), 1, 0);
        line(x, 103, 9, 9, "b");
        x.reading(0, 6, 0);
        span(x, "another KIND's UNITS are its own", 1, 0, 5);
        span(x, "another KIND's UNITS are its own", 2, 1, 6);
        line(x, 111, 9, 9, "a");
        span(x, "too far away for MOST, too", 1, 0, 5);
    }

    private static void weeksOfTheirOwn() {
        Edge.sentence("in one WEEK: of a KIND, in any of the WEEKS not more than 60 away");
        PennyBooks x = mixed(2);
        x.rules(60, 3);
        for (int away = 1; away <= 60; away++) {
            line(x, 100 + away, 1, 1, "a");
            line(x, 100 - away, 1, 1, "b");
        }
        for (int away = 1; away <= 3; away++) {
            line(x, 100 - away, 1, 1, "a");
            line(x, 100 + away, 1, 1, "b");
        }
        // One at most of each, at 1: two pence are one of each.
        Tests.due(x, Edge.about("two KINDS"), x.ways(0, 0), 1, 0);
        span(x, "KIND 1", 1, 1, 1);
        span(x, "KIND 2", 2, 1, 1);
        x = new PennyBooks();
        x.family(0, 0);
        Tests.edition(x, "if word a then kind 14 units 2; if word b then kind 15 units 3;");
        x.rules(60, 3);
        line(x, 100, 5, 0, "misc");
        line(x, 160, 2, 0, "a");
        line(x, 40, 3, 0, "b");
        line(x, 160, 3, 0, "b");
        line(x, 40, 2, 0, "a");
        Tests.due(x, Edge.about("the last two KINDS, 60 away"), x.ways(0, 0), 1, 0);
        span(x, "KIND 14", 14, 2, 2);
        span(x, "KIND 15", 15, 3, 3);
    }

    private static void askedAfterAnother() {
        Edge.sentence("MOST and PRICE are those of the LINE asked");
        PennyBooks x = mixed(5);
        line(x, 99, 5, 5, "a");
        line(x, 300, 5, 0, "misc");
        line(x, 299, 2, 2, "a");
        line(x, 301, 3, 1, "b");
        Tests.due(x, Edge.about("five of one THING"), x.ways(0, 0), 1, 0);
        Tests.due(x, Edge.about("two of one, one of another"), x.ways(2, 0), 1, 0);
        Tests.due(x, Edge.about("two"), x.span(2, 0, 1, 1), 2, 0);
        Tests.due(x, Edge.about("five"), x.span(0, 0, 1, 1), 5, 0);
        Tests.due(x, Edge.about("one"), x.span(2, 0, 2, 1), 1, 0);
        Tests.due(x, Edge.about("none"), x.span(0, 0, 2, 1), -1, 6);
        x.reading(2, 6, 0);
        Tests.due(x, Edge.about("not so many"), x.ways(2, 0), 0, 0);
    }

    /** SUNDRIES of two FAMILIES at both ends of the WEEKS, so that no LINE's number is like another one's WEEK. */
    private static void ofTheLineAsked() {
        Edge.sentence("THINGS are those of the FAMILY and the WEEKS of the LINE asked, by the EDITION asked");
        PennyBooks x = desk();
        Tests.edition(x, "if word a then kind 15 units shop; if word b then kind 3 units shop;");
        int[] weeks = {1, 60, 250, 459, 518};
        for (int i = 0; i < weeks.length; i++) {
            for (int family = 0; family < 2; family++) {
                for (int side = -1; side <= 1; side++) {
                    x.words(Tests.word(side < 0 ? "a" : side > 0 ? "b" : "misc"), 0, 0);
                    int units = side == 0 ? 0 : i + 1 + family;
                    int pence = side < 0 ? units * (3 + i) : side > 0 ? units * 7 : 3 + i + 7 * (1 + family);
                    x.line(family, weeks[i] + side, units, pence, false, 0, 0);
                }
            }
        }
        x.rules(2, 3);
        for (int i = 0; i < weeks.length; i++) {
            for (int family = 0; family < 2; family++) {
                int line = 6 * i + 3 * family + 1;
                int[] due = twoThings(3 + i + 7 * (1 + family), 3 + i, 7, i + 1 + family);
                for (int e = 0; e < 2; e++) {
                    String asked = "in " + weeks[i] + " of " + family + " by " + e;
                    Tests.due(x, Edge.about(asked), x.ways(line, e), due[0], 0);
                    Tests.due(x, Edge.about(asked + " fewest"), x.span(line, e, e == 0 ? 1 : 15, 0), due[1], 0);
                    Tests.due(x, Edge.about(asked + " most"), x.span(line, e, e == 0 ? 1 : 15, 1), due[2], 0);
                    Tests.due(x, Edge.about(asked + " fewest"), x.span(line, e, e == 0 ? 2 : 3, 0), due[3], 0);
                    Tests.due(x, Edge.about(asked + " most"), x.span(line, e, e == 0 ? 2 : 3, 1), due[4], 0);
                    Tests.due(x, Edge.about(asked + " none"), x.span(line, e, e == 0 ? 3 : 2, 1), -1, 6);
                }
            }
        }
    }

    /** WAYS of two THINGS at such prices, then the fewest and the most of each. */
    private static int[] twoThings(int pence, int price, int other, int most) {
        int[] due = {0, most, 0, most, 0};
        for (int a = 0; a <= most; a++) {
            for (int b = 0; b <= most; b++) {
                if (a * price + b * other == pence) {
                    due[0]++;
                    due[1] = Math.min(due[1], a);
                    due[2] = Math.max(due[2], a);
                    due[3] = Math.min(due[3], b);
                    due[4] = Math.max(due[4], b);
                }
            }
        }
        return due;
    }

    private static void theLastLine() {
        Edge.sentence("LINES, at most 200: SUNDRIES as the last of them, and THINGS as the last");
        for (int week : new int[] {0, 519}) {
            PennyBooks x = desk();
            int beside = week == 0 ? 1 : 518;
            for (int i = 0; i < 198; i++) {
                line(x, 260, 1, 1, "b");
            }
            line(x, beside, 6, 2, "o");
            int last = line(x, week, 6, 0, "misc");
            Tests.due(x, Edge.about("two of the THING ahead of it"), x.ways(last, 0), 1, 0);
            Tests.due(x, Edge.about("how many"), x.span(last, 0, 15, 0), 2, 0);
            x = desk();
            for (int i = 0; i < 198; i++) {
                line(x, 260, 1, 1, "b");
            }
            last = line(x, week, 6, 0, "misc");
            line(x, beside, 6, 2, "o");
            Tests.due(x, Edge.about("two of the last THING"), x.ways(last, 0), 1, 0);
            Tests.due(x, Edge.about("how many"), x.span(last, 0, 15, 1), 2, 0);
        }
    }

    private static void twentyAtMost() {
        Edge.sentence("MOST: 20 at most");
        for (int units = 18; units <= 22; units++) {
            PennyBooks x = mixed(units);
            line(x, 99, 9, 9, "a");
            line(x, 99, 9, 9, "a");
            if (units > 18) {
                line(x, 99, units - 18, units - 18, "a");
            }
            Tests.due(x, Edge.about(units + " UNITS"), x.ways(0, 0), units <= 20 ? 1 : 0, 0);
            x.reading(0, 20, 0);
            Tests.due(x, Edge.about(units + " UNITS, 20 asked"), x.ways(0, 0), units >= 20 ? 1 : 0, 0);
        }
    }

    private static void zeroToMost() {
        Edge.sentence("how many of each THING, 0 to MOST");
        PennyBooks x = mixed(12);
        line(x, 99, 12, 3, "a");
        line(x, 101, 6, 2, "b");
        // a at 4, up to 3; b at 3, up to 2: 12 is three a; with b it is 6 and 6, or 3 and 9, which can't be.
        Tests.due(x, Edge.about("all of one, none of the other"), x.ways(0, 0), 1, 0);
        span(x, "a", 1, 3, 3);
        span(x, "b", 2, 0, 0);
        line(x, 101, 6, 2, "b");
        Tests.due(x, Edge.about("four of b"), x.ways(0, 0), 2, 0);
        span(x, "a", 1, 0, 3);
        span(x, "b", 2, 0, 4);
    }

    private static void together() {
        Edge.sentence("at its PRICE, together just the PENCE");
        for (int pence = 1; pence <= 24; pence++) {
            PennyBooks x = mixed(pence);
            line(x, 99, 10, 2, "a");
            line(x, 101, 12, 2, "b");
            int ways = 0;
            for (int a = 0; a <= 2; a++) {
                for (int b = 0; b <= 2; b++) {
                    ways += 5 * a + 6 * b == pence ? 1 : 0;
                }
            }
            Tests.due(x, Edge.about(pence + " pence"), x.ways(0, 0), ways, 0);
        }
    }

    private static void spanRefused() {
        Edge.sentence("span: a KIND (1 to 15), what 0, 1");
        Call call = Call.of("span", 4, 0, 1, 0);
        Edge.taken(Desks::rich, call, 0);
        Edge.taken(Desks::rich, call.with(3, 1), 4);
        Edge.range(Desks::rich, call, 0, 0, 6, Desks.LINES - 1, 6);
        Edge.range(Desks::rich, call, 1, 0, 0, 1, 6);
        Edge.range(Desks::rich, call, 2, 1, 15);
        Edge.range(Desks::rich, call, 3, 0, 1);
        Edge.sentence("span (1; 6: as ways(), no such THING, no WAY)");
        Edge.refused(Desks::rich, call.with(0, 5), 6);
        Edge.refused(Desks::rich, call.with(0, 15), 6);
        Edge.refused(Desks::rich, call.with(2, 3), 6);
        Edge.refused(Desks::rich, call.with(2, 14), 6);
        Edge.refused(() -> priced(6, 5), Call.of("span", 0, 0, 1, 0), 6);
        Edge.taken(() -> priced(5, 5), Call.of("span", 0, 0, 1, 0), 1);
        Edge.refused(() -> priced(5, 5), Call.of("span", 0, 0, 2, 0), 6);
        Edge.refused(Desks::rich, call.with(0, 5).with(2, 16), 1);
        Edge.refused(Desks::rich, call.with(2, 3).with(3, 2), 1);
        Edge.refused(PennyBooks::new, call, 1);
    }

    private static void greatestCount() {
        Edge.sentence("WAYS: how many (as many as there can be)");
        PennyBooks x = new PennyBooks();
        x.family(0, 0);
        Tests.edition(x, "if pence < 16 then kind pence units 20;");
        Tests.went(x, 0, 100, 150, "misc");
        for (int kind = 1; kind <= 15; kind++) {
            Tests.went(x, 0, 99, kind, "tea");
        }
        // The middle coefficient of (1 + x + .. + x to the 20th) to the 15th.
        java.math.BigInteger[] counts = new java.math.BigInteger[151];
        java.util.Arrays.fill(counts, java.math.BigInteger.ZERO);
        counts[0] = java.math.BigInteger.ONE;
        for (int kind = 1; kind <= 15; kind++) {
            for (int sum = 150; sum >= 0; sum--) {
                for (int many = 1; many <= 20 && many <= sum; many++) {
                    counts[sum] = counts[sum].add(counts[sum - many]);
                }
            }
        }
        Tests.due(x, Edge.about("150 of 300"), x.ways(0, 0), counts[150].longValueExact(), 0);
        x.reading(0, 300, 0);
        Tests.due(x, Edge.about("300 of 300"), x.ways(0, 0), 1, 0);
        x.reading(0, 301, 0);
        Tests.due(x, Edge.about("301 of 300"), x.ways(0, 0), 0, 0);
    }
}
