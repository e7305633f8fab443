/** Promises 34 and 35. */
public final class WeightTest {
    public static void main(String[] args) {
        nearest();
        likeOnes();
        status();
        statusOrder();
        Tests.end();
    }

    private static void margins(PennyBooks x, int... margins) {
        x.tray(0, 1, 8);
        for (int i = 0; i < margins.length; i++) {
            x.write(0, i, margins[i]);
        }
    }

    private static void weights(PennyBooks x, int... want) {
        for (int i = 0; i < want.length; i++) {
            Tests.due(x, "weight " + i, x.weight(i), want[i], 0);
        }
        Tests.due(x, "no more", x.weight(want.length), -1, 6);
    }

    private static void nearest() {
        PennyBooks x = new PennyBooks();
        x.family(0, 0);
        x.family(1, 3);
        x.family(3, 2);
        margins(x, 2, 3, 0, 4, 2, 0, 4, 3);
        Tests.due(x, "just so", x.weights(3, 4, 0), 0, 0);
        weights(x, 2, 3, 4);
        Tests.due(x, "at most 3", x.weights(3, 3, 0), 2, 0);
        weights(x, 2, 3, 3);
        Tests.due(x, "only two of them", x.weights(2, 4, 0), 8, 0);
        weights(x, 2, 3);
        margins(x, 0, 0, 7, 0, 0, 9, 0, 0);
        Tests.due(x, "margins of none", x.weights(3, 4, 0), 16, 0);
        weights(x, 0, 0, 0);
        margins(x, 100, 100, 100, 100, 100, 100, 100, 100);
        Tests.due(x, "far off", x.weights(1, 1, 0), 798, 0);
        weights(x, 1);
    }

    /** Where class and land pull against each other, lesser weights first. */
    private static void likeOnes() {
        PennyBooks x = new PennyBooks();
        for (int i = 0; i < 8; i++) {
            x.family(0, 0);
        }
        margins(x, 16, 0, 0, 0, 0, 0, 0, 0);
        Tests.due(x, "all are alike", x.weights(8, 4, 0), 16, 0);
        weights(x, 0, 0, 0, 0, 0, 0, 0, 0);
        margins(x, 16, 0, 0, 0, 5, 0, 0, 0);
        Tests.due(x, "five to sixteen are alike", x.weights(8, 4, 0), 11, 0);
        weights(x, 0, 0, 0, 0, 0, 0, 1, 4);
        margins(x, 16, 0, 0, 0, 16, 0, 0, 0);
        Tests.due(x, "just sixteen", x.weights(8, 3, 0), 0, 0);
        weights(x, 0, 0, 1, 3, 3, 3, 3, 3);
        Tests.due(x, "just sixteen", x.weights(8, 2, 0), 0, 0);
        weights(x, 2, 2, 2, 2, 2, 2, 2, 2);
    }

    private static void status() {
        PennyBooks x = new PennyBooks();
        Tests.due(x, "ahead of any", x.weight(0), -1, 6);
        Tests.due(x, "below 0", x.weight(-1), -1, 1);
        for (int i = 0; i < 9; i++) {
            x.family(0, 0);
        }
        margins(x);
        Tests.due(x, "n 0", x.weights(0, 1, 0), -1, 1);
        Tests.due(x, "n 9", x.weights(9, 1, 0), -1, 1);
        Tests.due(x, "most 0", x.weights(1, 0, 0), -1, 1);
        Tests.due(x, "most 5", x.weights(1, 5, 0), -1, 1);
        Tests.due(x, "tray -1", x.weights(1, 1, -1), -1, 1);
        Tests.due(x, "tray 4", x.weights(1, 1, 4), -1, 1);
        Tests.due(x, "still none", x.weight(0), -1, 6);
        Tests.due(x, "eight", x.weights(8, 1, 0), 0, 0);
        Tests.due(x, "the eighth", x.weight(7), 0, 0);
        Tests.due(x, "the ninth", x.weight(8), -1, 6);
        Tests.due(x, "no such family", x.weight(Integer.MAX_VALUE), -1, 6);
        Tests.due(x, "below 0", x.weight(Integer.MIN_VALUE), -1, 1);
        x.write(0, 0, 1);
        Tests.due(x, "one", x.weights(1, 1, 0), 1, 0);
        weights(x, 0);
        x.write(0, 7, -1);
        x.write(0, 4, 1);
        Tests.due(x, "a margin below 0", x.weights(2, 1, 0), -1, 1);
        x.write(0, 7, 101);
        Tests.due(x, "a margin above 100", x.weights(2, 1, 0), -1, 1);
        weights(x, 0);
        x.write(0, 7, 100);
        Tests.due(x, "100", x.weights(2, 1, 0), 100, 0);
        weights(x, 0, 1);
    }

    private static void statusOrder() {
        PennyBooks x = new PennyBooks();
        x.family(0, 0);
        Tests.due(x, "more than there are", x.weights(2, 1, 0), -1, 1);
        Tests.due(x, "missing", x.weights(1, 1, 0), -1, 2);
        x.tray(0, 0, 7);
        x.write(0, 0, -1);
        Tests.due(x, "too few", x.weights(1, 1, 0), -1, 3);
        x.tray(0, 0, 9);
        x.write(0, 8, -1);
        Tests.due(x, "the ninth is no margin", x.weights(1, 1, 0), 0, 0);
        x.tray(0, 3, 8);
        x.write(0, 0, 1L << 32);
        Tests.due(x, "a margin of 64 bits", x.weights(1, 1, 0), -1, 1);
    }
}
