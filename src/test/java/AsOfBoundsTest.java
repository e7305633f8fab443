/** "AS OF a DAY all is told by what was KNOWN by then": each call that tells of LINES, on both sides of two DAYS. */
public final class AsOfBoundsTest {
    /** The DAYS looked from: nothing is KNOWN, the LINES are, their READINGS are, too. */
    private static final int[] DAYS = {9, 10, 19, 20, 9999};
    private static final int[][] ORDERS = {{0, 1, 2, 3, 4}, {4, 3, 2, 1, 0}, {3, 0, 4, 1, 2, 0, 2, 4, 3, 1}};

    public static void main(String[] args) {
        numbers();
        fractions();
        judgedAnew();
        knownOfEachFamily();
        Tests.end();
    }

    /** LINES known from DAY 10, and READINGS of the first two from DAY 20. */
    private static PennyBooks desk() {
        PennyBooks x = new PennyBooks();
        x.family(0, 0);
        x.family(0, 0);
        Tests.edition(x, "if word tea then kind 1 units pence / 10;");
        Tests.edition(x, "if pence > 25 then kind 2; if pence > 20 then kind 1;");
        line(x, 0, 9, 20, "tea", 0);
        line(x, 0, 10, 21, "tea", 0);
        line(x, 1, 9, 30, "tea", 0);
        line(x, 1, 10, 30, "tea", 0);
        line(x, 0, 12, 20, "misc", 1);
        x.reading(1, 12, 20);
        x.reading(0, 30, 20);
        x.told(0, 10, 12);
        x.member(0, -2000, 0, 519);
        x.rules(10, 1);
        x.loss(0, 10);
        return x;
    }

    private static void line(PennyBooks x, int family, int week, int pence, String word, int hand) {
        x.words(Tests.word(word), 0, 0);
        x.line(family, week, 0, pence, false, hand, 10);
    }

    /** The answers due while nothing is KNOWN, by the LINES as written, and as read; -1 is NONE with STATUS 6. */
    private static void numbers() {
        Edge.sentence("AS OF a DAY all is told by what was KNOWN by then");
        told(Call.of("pence", 0), -1, 20, 30);
        told(Call.of("pence", 1), -1, 21, 12);
        told(Call.of("pence", 2), -1, 30, 30);
        told(Call.of("kind", 0, 1, 0), -1, 0, 2);
        told(Call.of("kind", 1, 0, 1), -1, 2, 1);
        told(Call.of("kind", 0, 1, 2), -1, -1, 0);
        told(Call.of("kind", 1, 1, 2), -1, 1, -1);
        told(Call.of("moved", 0, 1), 0, 3, 4);
        told(Call.of("spent", 0, 10, -1, 0), 0, 21, 12);
        told(Call.of("spent", 0, 10, 1, 0), 0, 21, 12);
        told(Call.of("spent", 0, 9, 2, 1), 0, 0, 30);
        told(Call.of("out", 0, 10), 12, -9, 0);
        told(Call.of("slips", 0, 10, 0), 1, 1, 0);
        told(Call.of("slips", 0, 10, 2), 1, 0, 0);
        told(Call.of("slip", 1), -1, 3, 0);
        told(Call.of("slip", 0), -1, -1, -1);
        told(Call.of("ways", 4, 0), -1, 1, 0);
        told(Call.of("span", 4, 0, 1, 0), -1, 2, -1);
        told(Call.of("mouths", 0, 10), 100, 100, 100);
        told(Call.of("change", 0, 0), -1, 11, 11);
        told(Call.of("change", 0, 1), -1, 0, 0);
        told(Call.of("change", 0, 2), -1, 1, 1);
        told(Call.of("gaps", 0), 0, 1, 1);
        told(Call.of("bound", 0, 11, 1, 0), -1, 20, 12);
        told(Call.of("bound", 0, 11, 1, 1), -1, 21, 20);
        told(Call.of("bound", 0, 11, 2, 1), -1, 21, 30);
        told(Call.of("likes", 0, 1), 0, 1, 1);
    }

    private static void told(Call call, int unknown, int written, int read) {
        for (int[] order : ORDERS) {
            PennyBooks x = desk();
            for (int at : order) {
                int due = at == 0 ? unknown : at < 3 ? written : read;
                boolean signed = due == -1 && call.toString().startsWith("out");
                x.asof(DAYS[at]);
                Tests.due(x, Edge.about(call + " as of " + DAYS[at]), call.on(x), due, due == -1 && !signed ? 6 : 0);
            }
        }
    }

    private static void fractions() {
        Edge.sentence("AS OF a DAY all is told by what was KNOWN by then: FRACTIONS");
        PennyBooks x = desk();
        for (int[] order : ORDERS) {
            for (int at : order) {
                String day = " as of " + DAYS[at];
                x.asof(DAYS[at]);
                long own = at == 0 ? 0 : at < 3 ? 21 : 12;
                Tests.fraction(x, Edge.about("share()" + day), x.share(0, 10, 1, 0), own, 1);
                if (at == 0) {
                    Tests.due(x, Edge.about("price()" + day), x.price(1, 0, 0, 0), -1, 6);
                    Tests.due(x, Edge.about("fell()" + day), x.fell(0, -1, 0, 1), -1, 6);
                } else {
                    Tests.fraction(x, Edge.about("the least" + day), x.price(1, 0, 0, 0), 10, 1);
                    Tests.fraction(x, Edge.about("the middle" + day), x.price(1, 0, 0, 1), 10, 1);
                    Tests.fraction(x, Edge.about("the greatest" + day), x.price(1, 0, 0, 2), at < 3 ? 21 : 12, at < 3 ? 2 : 1);
                    Tests.fraction(x, Edge.about("fell()" + day), x.fell(0, -1, 0, 1), at < 3 ? 1 : -18, 1);
                }
            }
        }
    }

    /** One LINE read as any PENCE from 1 to 40, by its own other numbers and its neighbour's PENCE, too. */
    private static void judgedAnew() {
        Edge.sentence("By an EDITION a LINE (as known): by its PENCE then, whatever they were");
        PennyBooks x = new PennyBooks();
        for (int i = 0; i < 4; i++) {
            x.family(0, 0);
        }
        for (int i = 0; i < 3; i++) {
            x.words(1, 0, 0);
            x.line(3, 11 + i, 9, 20 + i, false, 5, 13);
        }
        Tests.edition(x, "if pence > 20 then kind pence - 20 units pence;");
        Tests.edition(x, "if pence < 21 then kind pence units pence + 1;");
        for (int pence = 1; pence <= 40; pence++) {
            x.reading(1, pence, 13 + pence);
            boolean more = pence > 20;
            Tests.due(x, Edge.about("KIND of " + pence), x.kind(1, 0, 0), more ? Math.min(15, pence - 20) : 0, 0);
            Tests.due(x, Edge.about("UNITS of " + pence), x.kind(1, 0, 1), more ? pence : 1, 0);
            Tests.due(x, Edge.about("KIND of " + pence), x.kind(1, 1, 0), more ? 0 : Math.min(15, pence), 0);
            Tests.due(x, Edge.about("UNITS of " + pence), x.kind(1, 1, 1), more ? 1 : pence + 1, 0);
            Tests.due(x, Edge.about("its neighbour stays"), x.kind(2, 0, 1), 22, 0);
        }
        for (int pence = 40; pence > 0; pence--) {
            x.asof(13 + pence);
            Tests.due(x, Edge.about("UNITS as of, of " + pence), x.kind(1, 0, 1), pence > 20 ? pence : 1, 0);
            Tests.due(x, Edge.about("UNITS as of, of " + pence), x.kind(1, 1, 1), pence > 20 ? 1 : pence + 1, 0);
        }
        x.asof(13);
        Tests.due(x, Edge.about("as written"), x.kind(1, 0, 1), 21, 0);
    }

    /** Two LINES of a FAMILY are KNOWN, and one more of each FAMILY not yet. */
    private static void knownOfEachFamily() {
        Edge.sentence("LINES then KNOWN: of whichever FAMILY");
        for (int family = 0; family < 12; family++) {
            PennyBooks x = new PennyBooks();
            for (int i = 0; i < 12; i++) {
                x.family(0, 0);
            }
            for (int i = 0; i < 14; i++) {
                x.words(1, 0, 0);
                x.line(i < 2 ? family : i - 2, 100 + 2 * i, 0, 5, false, i % 2, i < 2 ? 1 : 2);
            }
            for (int asked = 0; asked < 12; asked++) {
                boolean its = asked == family;
                String whose = " of FAMILY " + asked + ", LINES being of " + family;
                x.asof(1);
                Tests.due(x, Edge.about("the CHANGE" + whose), x.change(asked, 0), its ? 101 : -1, its ? 0 : 6);
                Tests.due(x, Edge.about("UNLIKE" + whose), x.change(asked, 2), its ? 1 : -1, its ? 0 : 6);
                Tests.due(x, Edge.about("GAPS" + whose), x.gaps(asked), its ? 1 : 0, 0);
                Tests.due(x, Edge.about("the least" + whose), x.bound(asked, 101, 1, 0), its ? 5 : -1, its ? 0 : 6);
                x.asof(2);
                Tests.due(x, Edge.about("GAPS later" + whose), x.gaps(asked), its ? 2 * asked + 2 : 0, 0);
                Tests.due(x, Edge.about("UNLIKE later" + whose), x.change(asked, 2), its ? 1 : 0, 0);
            }
        }
    }
}
