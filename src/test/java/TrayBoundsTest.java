/** Promises 1 to 8: each sentence that names a boundary, on both sides of it. */
public final class TrayBoundsTest {
    private static final int[] BITS = {8, 16, 32, 64};

    public static void main(String[] args) {
        trayNumbers();
        missingAtFirst();
        howManyNumbers();
        sorts();
        rowsOfZeros();
        cutToItsSort();
        placesOfATray();
        noneIsNotMinusOne();
        pourBelowZero();
        pourTooFew();
        pourNothing();
        pourAsTheyWere();
        pourOfUnlikeSorts();
        pourOrder();
        fractionAtFirst();
        statusAtFirst();
        Tests.end();
    }

    private static void trayNumbers() {
        Edge.sentence("TRAYS 0 to 3");
        Edge.range(Desks::rich, Call.of("tray", 0, 0, 5), 0, 0, 3);
        Edge.range(TrayBoundsTest::allLaid, Call.of("write", 0, 0, 5L), 0, 0, 3);
        Edge.range(TrayBoundsTest::allLaid, Call.of("read", 0, 0), 0, 0, 3);
        Edge.range(TrayBoundsTest::allLaid, Call.of("pour", 0, 0, 1, 0, 1), 0, 0, 3);
        Edge.range(TrayBoundsTest::allLaid, Call.of("pour", 1, 0, 0, 0, 1), 2, 0, 3);
        Edge.range(TrayBoundsTest::allLaid, Call.of("weights", 1, 1, 0), 2, 0, 3);
    }

    /** Four TRAYS of one sort, with 9 numbers each. */
    private static PennyBooks allLaid() {
        PennyBooks x = Desks.rich();
        for (int tray = 0; tray < 4; tray++) {
            x.tray(tray, 2, 9);
            x.write(tray, 0, tray + 1);
        }
        return x;
    }

    private static void missingAtFirst() {
        Edge.sentence("TRAYS are MISSING at first");
        for (int tray = 0; tray < 4; tray++) {
            Edge.refused(PennyBooks::new, Call.of("read", tray, 0), 2);
            Edge.refused(PennyBooks::new, Call.of("write", tray, 0, 1L), 2);
            Edge.refused(PennyBooks::new, Call.of("pour", tray, 0, tray, 0, 0), 2);
            PennyBooks x = new PennyBooks();
            x.tray(tray, 0, 1);
            Tests.due(x, Edge.about("not once it is laid"), x.read(tray, 0), 0, 0);
            Tests.due(x, Edge.about("but the others"), x.read((tray + 1) % 4, 0), -1, 2);
        }
        Edge.refused(Desks::rich, Call.of("read", 3, 0), 2);
        Edge.refused(Desks::rich, Call.of("write", 3, 0, 1L), 2);
    }

    private static void howManyNumbers() {
        Edge.sentence("rows of 0 to 60 numbers");
        Edge.range(Desks::rich, Call.of("tray", 0, 0, 5), 2, 0, 60);
        Edge.range(Desks::rich, Call.of("tray", 3, 3, 5), 2, 0, 60);
        for (int many : new int[] {0, 1, 59, 60}) {
            PennyBooks x = new PennyBooks();
            x.tray(2, 3, many);
            for (int place = 0; place < many; place++) {
                Tests.due(x, Edge.about("place " + place + " of " + many), x.read(2, place), 0, 0);
            }
            Tests.due(x, Edge.about("no place " + many), x.read(2, many), -1, 3);
            Tests.due(x, Edge.about("no place " + many), x.write(2, many, 1), 3);
        }
    }

    private static void sorts() {
        Edge.sentence("8 bits (sort 0), 16 (1), 32 (2) or 64 (3)");
        Edge.range(Desks::rich, Call.of("tray", 0, 0, 5), 1, 0, 3);
        Edge.range(Desks::rich, Call.of("tray", 3, 0, 0), 1, 0, 3);
    }

    private static void rowsOfZeros() {
        Edge.sentence("A TRAY is a row of so many 0s");
        PennyBooks x = new PennyBooks();
        for (int tray = 0; tray < 4; tray++) {
            x.tray(tray, 3, 60);
            x.write(tray, 0, tray + 1);
            x.write(tray, 59, tray + 5);
        }
        x.tray(1, 3, 60);
        Tests.due(x, Edge.about("laid anew"), x.read(1, 0), 0, 0);
        Tests.due(x, Edge.about("laid anew"), x.read(1, 59), 0, 0);
        for (int tray = 0; tray < 4; tray += 2) {
            Tests.due(x, Edge.about("the neighbours stay"), x.read(tray, 0), tray + 1, 0);
            Tests.due(x, Edge.about("the neighbours stay"), x.read(tray, 59), tray + 5, 0);
        }
        x.tray(2, 0, 1);
        x.tray(2, 0, 60);
        Tests.due(x, Edge.about("0 where it was once longer"), x.read(2, 59), 0, 0);
    }

    private static void cutToItsSort() {
        Edge.sentence("A number comes to a place of a TRAY, cut to its sort");
        for (int sort = 0; sort < 4; sort++) {
            long greatest = Long.MAX_VALUE >> 64 - BITS[sort];
            kept(sort, greatest, greatest);
            kept(sort, -greatest - 1, -greatest - 1);
            // The first beyond either end goes round to the other; of 64 bits none is beyond.
            kept(sort, greatest + 1, -greatest - 1);
            kept(sort, -greatest - 2, greatest);
            kept(sort, -1, -1);
            kept(sort, 0, 0);
            kept(sort, Long.MAX_VALUE, sort == 3 ? Long.MAX_VALUE : -1);
            kept(sort, Long.MIN_VALUE, sort == 3 ? Long.MIN_VALUE : 0);
        }
    }

    private static void kept(int sort, long number, long want) {
        PennyBooks x = new PennyBooks();
        x.tray(1, sort, 1);
        Tests.due(x, Edge.about(number + " in sort " + sort), x.write(1, 0, number), 0);
        Tests.due(x, Edge.about(number + " in sort " + sort), x.read(1, 0), want, 0);
    }

    private static void placesOfATray() {
        Edge.sentence("3 a place that the TRAY has not");
        for (String name : new String[] {"read", "write"}) {
            Call call = name.equals("read") ? Call.of(name, 0, 0) : Call.of(name, 0, 0, 9L);
            Edge.status(Desks::rich, call.with(1, 0), 0);
            Edge.status(Desks::rich, call.with(1, 2), 0);
            for (int place : new int[] {-1, 3, Integer.MIN_VALUE, Integer.MAX_VALUE}) {
                Edge.refused(Desks::rich, call.with(1, place), 3);
            }
        }
        Edge.sentence("1 is asked ahead of 2, and 2 ahead of 3");
        Edge.refused(Desks::rich, Call.of("read", 4, -1), 1);
        Edge.refused(Desks::rich, Call.of("write", -1, 99, 9L), 1);
        Edge.refused(Desks::rich, Call.of("read", 3, -1), 2);
        Edge.refused(Desks::rich, Call.of("write", 3, 99, 9L), 2);
    }

    private static void noneIsNotMinusOne() {
        Edge.sentence("STATUS tells NONE from -1");
        PennyBooks x = new PennyBooks();
        x.tray(0, 0, 1);
        x.write(0, 0, -1);
        Tests.due(x, Edge.about("-1"), x.read(0, 0), -1, 0);
        Tests.due(x, Edge.about("NONE"), x.read(0, 1), -1, 3);
    }

    private static void pourBelowZero() {
        Edge.sentence("pour (1: below 0, too)");
        Call call = Call.of("pour", 1, 0, 2, 0, 1);
        for (int at : new int[] {1, 3, 4}) {
            Edge.taken(Desks::rich, call.with(at, 0), 1);
            Edge.refused(Desks::rich, call.with(at, -1), 1);
            Edge.refused(Desks::rich, call.with(at, Integer.MIN_VALUE), 1);
        }
    }

    private static void pourTooFew() {
        Edge.sentence("pour: 3 a place that the TRAY has not, or too few numbers");
        // TRAY 1 has eight numbers, TRAY 2 three, both of sort 1.
        Edge.taken(Desks::rich, Call.of("pour", 1, 5, 2, 0, 3), 1);
        Edge.refused(Desks::rich, Call.of("pour", 1, 6, 2, 0, 3), 3);
        Edge.taken(Desks::rich, Call.of("pour", 1, 0, 2, 1, 2), 1);
        Edge.refused(Desks::rich, Call.of("pour", 1, 0, 2, 2, 2), 3);
        Edge.refused(Desks::rich, Call.of("pour", 1, 0, 2, 0, 4), 3);
        Edge.taken(Desks::rich, Call.of("pour", 1, 0, 1, 0, 8), 1);
        Edge.refused(Desks::rich, Call.of("pour", 1, 0, 1, 0, 9), 3);
        for (int at : new int[] {1, 3, 4}) {
            Edge.refused(Desks::rich, Call.of("pour", 1, 1, 2, 1, 1).with(at, Integer.MAX_VALUE), 3);
        }
    }

    private static void pourNothing() {
        Edge.sentence("So many numbers of a TRAY: 0 of them");
        Edge.taken(Desks::rich, Call.of("pour", 1, 8, 2, 3, 0), 1);
        Edge.changesNothing(Desks::rich, Call.of("pour", 1, 8, 2, 3, 0));
        Edge.refused(Desks::rich, Call.of("pour", 1, 9, 2, 3, 0), 3);
        Edge.refused(Desks::rich, Call.of("pour", 1, 8, 2, 4, 0), 3);
        PennyBooks x = new PennyBooks();
        x.tray(0, 0, 0);
        x.tray(1, 0, 0);
        Tests.due(x, Edge.about("of an empty TRAY"), x.pour(0, 0, 1, 0, 0), 0);
        Tests.due(x, Edge.about("one of an empty TRAY"), x.pour(0, 0, 1, 0, 1), 3);
    }

    private static void pourAsTheyWere() {
        Edge.sentence("come to another one's (or its own) place on, as they were");
        for (int sort = 0; sort < 4; sort++) {
            for (int shift = -3; shift <= 3; shift++) {
                poured(sort, shift);
            }
        }
        PennyBooks x = new PennyBooks();
        x.tray(0, 3, 60);
        x.tray(3, 3, 60);
        for (int place = 0; place < 60; place++) {
            x.write(0, place, Long.MIN_VALUE + place);
        }
        Tests.due(x, Edge.about("all sixty"), x.pour(0, 0, 3, 0, 60), 0);
        for (int place = 0; place < 60; place++) {
            Tests.due(x, Edge.about("the other's"), x.read(3, place), Long.MIN_VALUE + place, 0);
            Tests.due(x, Edge.about("its own stays"), x.read(0, place), Long.MIN_VALUE + place, 0);
        }
    }

    /** Six of twelve numbers come so many places further in their own TRAY. */
    private static void poured(int sort, int shift) {
        PennyBooks x = new PennyBooks();
        x.tray(1, sort, 12);
        for (int place = 0; place < 12; place++) {
            x.write(1, place, 10 * place - 60);
        }
        Tests.due(x, Edge.about("by " + shift), x.pour(1, 3, 1, 3 + shift, 6), 0);
        for (int place = 0; place < 12; place++) {
            boolean moved = place >= 3 + shift && place < 9 + shift;
            int was = moved ? place - shift : place;
            Tests.due(x, Edge.about(place + " by " + shift), x.read(1, place), 10 * was - 60, 0);
        }
    }

    private static void pourOfUnlikeSorts() {
        Edge.sentence("8 TRAYS are of unlike sorts");
        for (int from = 0; from < 4; from++) {
            for (int to = 0; to < 4; to++) {
                PennyBooks x = new PennyBooks();
                x.tray(0, from, 2);
                x.tray(1, to, 2);
                Tests.due(x, Edge.about(from + " to " + to), x.pour(0, 0, 1, 0, 1), from == to ? 0 : 8);
            }
        }
        Edge.refused(Desks::rich, Call.of("pour", 0, 0, 1, 0, 1), 8);
        Edge.refused(Desks::rich, Call.of("pour", 0, 0, 1, 0, 0), 8);
    }

    private static void pourOrder() {
        Edge.sentence("pour (1; 2; 8; 3; asked in this order)");
        Edge.refused(Desks::rich, Call.of("pour", 3, -1, 0, 0, 1), 1);
        Edge.refused(Desks::rich, Call.of("pour", 3, 0, 4, 0, 1), 1);
        Edge.refused(Desks::rich, Call.of("pour", 0, 0, 1, 0, -1), 1);
        Edge.refused(Desks::rich, Call.of("pour", 3, 9, 0, 0, 1), 2);
        Edge.refused(Desks::rich, Call.of("pour", 0, 9, 3, 0, 1), 2);
        Edge.refused(Desks::rich, Call.of("pour", 3, 0, 3, 0, 0), 2);
        Edge.refused(Desks::rich, Call.of("pour", 0, 9, 1, 9, 9), 8);
        Edge.refused(Desks::rich, Call.of("pour", 1, 9, 2, 0, 1), 3);
    }

    private static void fractionAtFirst() {
        Edge.sentence("A new object: the FRACTION 0 by 1");
        PennyBooks x = new PennyBooks();
        Tests.due(Edge.about("top"), x.top(), 0);
        Tests.due(Edge.about("bottom"), x.bottom(), 1);
        x.share(0, 0, 0, 0);
        x.price(0, 0, 0, 0);
        x.fell(0, 0, 0, 1);
        Tests.due(Edge.about("top behind refused calls"), x.top(), 0);
        Tests.due(Edge.about("bottom behind refused calls"), x.bottom(), 1);
    }

    private static void statusAtFirst() {
        Edge.sentence("A new object: STATUS 0, an empty tape, no FAMILIES");
        Tests.due(Edge.about("status"), new PennyBooks().status(), 0);
        Edge.taken(PennyBooks::new, Call.of("edition", 0), 0);
        Edge.refused(PennyBooks::new, Call.of("edition", 1), 1);
        Edge.taken(PennyBooks::new, Call.of("feed", 0, 0, 0, 0, 0), 20);
        Edge.taken(PennyBooks::new, Call.of("family", 0, 0), 0);
        Edge.refused(PennyBooks::new, Call.of("gaps", 0), 1);
    }
}
