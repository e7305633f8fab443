/** Promises 34 and 35: each sentence that names a boundary, on both sides of it. */
public final class WeightBoundsTest {
    public static void main(String[] args) {
        firstFamilies();
        moreThanThereAre();
        toAMost();
        trayOfMargins();
        marginNumbers();
        firstEightNumbers();
        askedInThisOrder();
        unlikeSizes();
        leastOfThat();
        lesserWeights();
        allOfThem();
        weightBelowZero();
        latestWithStatusZero();
        Tests.end();
    }

    /** So many FAMILIES of CLASS 0 and LAND 0, and a TRAY of eight 0s. */
    private static PennyBooks alike(int families) {
        PennyBooks x = new PennyBooks();
        for (int i = 0; i < families; i++) {
            x.family(0, 0);
        }
        x.tray(0, 3, 8);
        return x;
    }

    /** FAMILIES in the four corners: CLASS and LAND 0 and 0, 1 and 1, .. */
    private static PennyBooks corners(int... margins) {
        PennyBooks x = new PennyBooks();
        for (int i = 0; i < 4; i++) {
            x.family(i, i);
        }
        margins(x, margins);
        return x;
    }

    private static void margins(PennyBooks x, int... margins) {
        x.tray(0, 3, 8);
        for (int i = 0; i < margins.length; i++) {
            x.write(0, i, margins[i]);
        }
    }

    private static void nearest(PennyBooks x, int most, int unlike, int... want) {
        Tests.due(x, Edge.about("UNLIKE"), x.weights(want.length, most, 0), unlike, 0);
        for (int i = 0; i < want.length; i++) {
            Tests.due(x, Edge.about("WEIGHT " + i), x.weight(i), want[i], 0);
        }
        Tests.due(x, Edge.about("no more"), x.weight(want.length), -1, 6);
    }

    private static void firstFamilies() {
        Edge.sentence("WEIGHTS of the first n FAMILIES (1 to 8)");
        Edge.range(() -> alike(12), Call.of("weights", 3, 2, 0), 0, 1, 8);
        Edge.range(Desks::rich, Call.of("weights", 3, 2, 1), 0, 1, 4);
        for (int n = 1; n <= 8; n++) {
            PennyBooks x = alike(9);
            x.weights(n, 1, 0);
            Tests.due(x, Edge.about("the last of " + n), x.weight(n - 1), 0, 0);
            Tests.due(x, Edge.about("behind the last of " + n), x.weight(n), -1, 6);
        }
    }

    private static void moreThanThereAre() {
        Edge.sentence("1: more than there are, too");
        for (int families = 1; families <= 8; families++) {
            int many = families;
            Edge.taken(() -> alike(many), Call.of("weights", many, 1, 0), 0);
            Edge.refused(() -> alike(many), Call.of("weights", many + 1, 1, 0), 1);
        }
        Edge.refused(() -> alike(0), Call.of("weights", 1, 1, 0), 1);
    }

    private static void toAMost() {
        Edge.sentence("whole numbers from 0 to a most (1 to 4)");
        Edge.range(Desks::rich, Call.of("weights", 3, 2, 1), 1, 1, 4);
        for (int most = 1; most <= 4; most++) {
            PennyBooks x = alike(1);
            margins(x, most, 0, 0, 0, most);
            nearest(x, most, 0, most);
            margins(x, most + 1, 0, 0, 0, most + 1);
            nearest(x, most, 2, most);
            margins(x);
            nearest(x, most, 0, 0);
        }
    }

    private static void trayOfMargins() {
        Edge.sentence("weights: (2) MISSING; (3) too few numbers");
        Edge.refused(Desks::rich, Call.of("weights", 3, 2, 3), 2);
        Edge.refused(Desks::rich, Call.of("weights", 3, 2, 0), 3);
        Edge.refused(Desks::rich, Call.of("weights", 3, 2, 2), 3);
        for (int many = 0; many <= 9; many++) {
            int size = many;
            Edge.status(() -> laid(size), Call.of("weights", 3, 2, 3), many < 8 ? 3 : 0);
        }
        Edge.status(() -> laid(60), Call.of("weights", 3, 2, 3), 0);
    }

    private static PennyBooks laid(int many) {
        PennyBooks x = Desks.rich();
        x.tray(3, 0, many);
        return x;
    }

    private static PennyBooks margin(int at, long margin) {
        PennyBooks x = Desks.rich();
        x.tray(3, 3, 8);
        x.write(3, at, margin);
        return x;
    }

    private static void marginNumbers() {
        Edge.sentence("MARGINS (0 to 100 each)");
        Call call = Call.of("weights", 3, 2, 3);
        for (int place = 0; place < 8; place++) {
            int at = place;
            Edge.status(() -> margin(at, 0), call, 0);
            Edge.status(() -> margin(at, 100), call, 0);
            for (long beyond : new long[] {-1, 101, Long.MIN_VALUE, Long.MAX_VALUE, 1L << 32, (1L << 32) + 50}) {
                Edge.refused(() -> margin(at, beyond), call, 1);
            }
        }
        PennyBooks x = alike(1);
        margins(x, 100, 100, 100, 100, 100, 100, 100, 100);
        nearest(x, 4, 792, 4);
    }

    private static void firstEightNumbers() {
        Edge.sentence("the first eight numbers of a TRAY: for each CLASS, then for each LAND");
        for (int place = 0; place < 8; place++) {
            PennyBooks x = new PennyBooks();
            x.family(place % 4, 3 - place % 4);
            x.tray(0, 0, 60);
            x.write(0, place, 3);
            x.write(0, 8, -1);
            x.write(0, 59, 127);
            // What pulls is the CLASS alone or the LAND alone, so that nothing is won by any WEIGHT.
            nearest(x, 4, 3, 0);
            int other = place < 4 ? 4 + 3 - place : 3 - place % 4;
            x.write(0, other, 3);
            boolean own = place < 4;
            nearest(x, 4, own ? 0 : 6, own ? 3 : 0);
        }
        PennyBooks x = new PennyBooks();
        x.family(1, 2);
        margins(x, 0, 4, 0, 0, 0, 0, 4, 0);
        nearest(x, 4, 0, 4);
    }

    private static void askedInThisOrder() {
        Edge.sentence("weights (1; 2; 3; 1: a MARGIN; asked in this order)");
        Edge.refused(Desks::rich, Call.of("weights", 0, 2, 3), 1);
        Edge.refused(Desks::rich, Call.of("weights", 5, 2, 3), 1);
        Edge.refused(Desks::rich, Call.of("weights", 3, 5, 0), 1);
        Edge.refused(Desks::rich, Call.of("weights", 3, 2, 4), 1);
        Edge.refused(Desks::rich, Call.of("weights", 3, 2, 3), 2);
        // TRAY 0 has a number below 0, but too few numbers come first.
        Edge.refused(Desks::rich, Call.of("weights", 3, 2, 0), 3);
        Edge.refused(() -> margin(0, -1), Call.of("weights", 3, 2, 3), 1);
        Edge.refused(() -> margin(7, 101), Call.of("weights", 3, 2, 3), 1);
    }

    private static void unlikeSizes() {
        Edge.sentence("UNLIKE is the sum of the sizes by which they are not");
        nearest(corners(4, 3, 2, 1, 4, 3, 2, 1), 4, 0, 4, 3, 2, 1);
        nearest(corners(4, 3, 2, 1, 4, 3, 2, 1), 2, 2 + 1 + 2 + 1, 2, 2, 2, 1);
        nearest(corners(0, 0, 0, 9, 9, 0, 0, 0), 4, 18, 0, 0, 0, 0);
        nearest(corners(1, 0, 0, 0, 3, 0, 0, 0), 4, 2, 1, 0, 0, 0);
    }

    private static void leastOfThat() {
        Edge.sentence("NEAREST: the least of that");
        PennyBooks x = new PennyBooks();
        x.family(0, 0);
        x.family(0, 1);
        x.family(1, 0);
        margins(x, 4, 4, 0, 0, 4, 4, 0, 0);
        // Giving the first one WEIGHT would take room from both others.
        nearest(x, 4, 0, 0, 4, 4);
        margins(x, 5, 4, 0, 0, 5, 4, 0, 0);
        nearest(x, 4, 0, 1, 4, 4);
        // All CLASSES or all LANDS have less than the others want.
        nearest(corners(1, 1, 1, 1, 4, 4, 4, 4), 4, 12, 1, 1, 1, 1);
        nearest(corners(4, 4, 4, 4, 1, 1, 1, 1), 4, 12, 1, 1, 1, 1);
        nearest(corners(9, 9, 9, 9, 9, 9, 9, 9), 4, 40, 4, 4, 4, 4);
    }

    private static void lesserWeights() {
        Edge.sentence("of several FAMILY by FAMILY the lesser WEIGHT");
        PennyBooks x = alike(3);
        for (int sum = 0; sum <= 13; sum++) {
            margins(x, sum, 0, 0, 0, sum);
            int c = Math.min(4, sum);
            int b = Math.min(4, sum - c);
            int a = Math.min(4, sum - c - b);
            nearest(x, 4, sum == 13 ? 2 : 0, a, b, c);
        }
        margins(x, 9, 0, 0, 0, 5);
        // Five to nine are all alike; five is the least.
        nearest(x, 4, 4, 0, 1, 4);
    }

    private static void allOfThem() {
        Edge.sentence("eight FAMILIES, to 4 each");
        PennyBooks x = alike(8);
        margins(x, 32, 0, 0, 0, 32);
        nearest(x, 4, 0, 4, 4, 4, 4, 4, 4, 4, 4);
        margins(x, 33, 0, 0, 0, 33);
        nearest(x, 4, 2, 4, 4, 4, 4, 4, 4, 4, 4);
        margins(x, 31, 0, 0, 0, 31);
        nearest(x, 4, 0, 3, 4, 4, 4, 4, 4, 4, 4);
        margins(x, 100, 0, 0, 0, 100);
        nearest(x, 4, 136, 4, 4, 4, 4, 4, 4, 4, 4);
    }

    private static void weightBelowZero() {
        Edge.sentence("weight (1: below 0; 6)");
        Edge.taken(Desks::rich, Call.of("weight", 0), 1);
        Edge.taken(Desks::rich, Call.of("weight", 2), 2);
        Edge.refused(Desks::rich, Call.of("weight", -1), 1);
        Edge.refused(Desks::rich, Call.of("weight", Integer.MIN_VALUE), 1);
        Edge.refused(Desks::rich, Call.of("weight", 3), 6);
        Edge.refused(Desks::rich, Call.of("weight", 4), 6);
        Edge.refused(Desks::rich, Call.of("weight", 12), 6);
        Edge.refused(Desks::rich, Call.of("weight", Integer.MAX_VALUE), 6);
        Edge.refused(PennyBooks::new, Call.of("weight", 0), 6);
        Edge.refused(PennyBooks::new, Call.of("weight", -1), 1);
    }

    private static void latestWithStatusZero() {
        Edge.sentence("by weights() latest with STATUS 0");
        PennyBooks x = alike(3);
        margins(x, 3, 0, 0, 0, 3);
        nearest(x, 2, 0, 0, 1, 2);
        Tests.due(x, Edge.about("refused (1)"), x.weights(4, 2, 0), -1, 1);
        Tests.due(x, Edge.about("refused (2)"), x.weights(2, 2, 1), -1, 2);
        x.tray(1, 0, 7);
        Tests.due(x, Edge.about("refused (3)"), x.weights(2, 2, 1), -1, 3);
        x.tray(1, 0, 8);
        x.write(1, 7, -1);
        Tests.due(x, Edge.about("refused (1: a MARGIN)"), x.weights(2, 2, 1), -1, 1);
        int[] still = {0, 1, 2};
        for (int i = 0; i < 3; i++) {
            Tests.due(x, Edge.about("still " + i), x.weight(i), still[i], 0);
        }
        x.write(0, 0, 1);
        x.family(0, 0);
        Tests.due(x, Edge.about("what comes later changes none"), x.weight(2), 2, 0);
        Tests.due(x, Edge.about("a FAMILY more has none"), x.weight(3), -1, 6);
        nearest(x, 2, 2, 1);
    }
}
