/** Desks in known states. */
final class Desks {
    /** KINDS of the rich desk's EDITION 0; by EDITION 1 all are SUNDRIES. */
    static final String KINDS = "if word tea then kind 1 units shop; if word pie then kind 2; if word milk then kind 3;"
        + " if word beer then kind 15;";
    /** The latest DAY of the rich desk, and the one it is looked at from. */
    static final int LATEST = 61;
    static final int LOOKED_FROM = 40;
    static final int LINES = 17;

    private Desks() {
    }

    /** A bit of everything, so that what a call may not change would be seen. */
    static PennyBooks rich() {
        PennyBooks x = new PennyBooks();
        layTrays(x);
        x.family(0, 0);
        x.family(0, 1);
        x.family(1, 2);
        x.family(0, 3);
        Tests.edition(x, KINDS);
        x.edition(0);
        Tests.edition(x, "if came came");
        writeLines(x);
        x.told(0, 100, 52);
        x.told(2, 10, 5);
        x.rules(9, 2);
        x.member(0, -2000, 0, 519);
        x.member(0, 0, 50, 150);
        x.member(2, -300, 0, 519);
        x.member(2, -600, 0, 519);
        x.scale(31, 51, 71, 99);
        x.weights(3, 4, 1);
        x.loss(0, 101);
        x.loss(2, 300);
        x.share(0, 100, 1, 0);
        x.words(Tests.word("soap"), Tests.word("milk"), 0);
        Tests.feed(x, "if came then kind 3;");
        return x;
    }

    /** Two TRAYS of one sort, one of another, and one MISSING. */
    private static void layTrays(PennyBooks x) {
        x.tray(0, 0, 3);
        x.write(0, 0, 7);
        x.write(0, 2, -7);
        x.tray(1, 1, 8);
        int[] margins = {3, 2, 0, 0, 1, 2, 2, 0};
        for (int i = 0; i < 8; i++) {
            x.write(1, i, margins[i]);
        }
        x.tray(2, 1, 3);
        x.write(2, 1, 1000);
    }

    private static void writeLines(PennyBooks x) {
        line(x, 0, 99, 3, 30, "tea", 5);
        line(x, 0, 100, 2, 24, "tea", 5);
        line(x, 0, 101, 0, 40, "pie", 5);
        line(x, 0, 102, 4, 20, "tea", 5);
        line(x, 0, 100, 0, 41, "soap", 5);
        x.words(Tests.word("wage"), 0, 0);
        x.line(0, 100, 0, 500, true, 1, 5);
        line(x, 1, 99, 1, 11, "tea", 5);
        line(x, 1, 100, 1, 12, "tea", 5);
        line(x, 1, 101, 1, 10, "tea", 5);
        line(x, 1, 102, 1, 9, "tea", 5);
        line(x, 2, 10, 0, 5, "soap", 5);
        line(x, 2, 13, 0, 8, "soap", 5);
        line(x, 0, 91, 0, 6, "beer", 5);
        line(x, 0, 90, 0, 6, "milk", 5);
        x.reading(4, 40, 20);
        line(x, 3, 101, 0, 7, "beer", 30);
        x.asof(LOOKED_FROM);
        line(x, 3, 104, 0, 8, "beer", 60);
        line(x, 3, 104, 0, 2, "tea", 60);
        x.reading(1, 25, LATEST);
    }

    /** Its HAND is that of its WEEK's last figure, as far as there are so many. */
    private static void line(PennyBooks x, int family, int week, int shop, int pence, String word, int known) {
        x.words(Tests.word(word), 0, 0);
        x.line(family, week, shop, pence, false, week % 8, known);
    }

    static PennyBooks fullOfFamilies() {
        PennyBooks x = rich();
        for (int i = 4; i < 12; i++) {
            x.family(3, 3);
        }
        return x;
    }

    /** 200 LINES known from DAY 9, and words for one more. */
    static PennyBooks fullOfLines() {
        PennyBooks x = new PennyBooks();
        x.family(0, 0);
        for (int i = 0; i < 200; i++) {
            x.words(1, 0, 0);
            x.line(0, i, 0, i + 1, false, 0, 9);
        }
        x.words(1, 0, 0);
        return x;
    }

    static PennyBooks fullOfReadings() {
        PennyBooks x = rich();
        for (int i = 2; i < 60; i++) {
            x.reading(0, 100 + i, LATEST);
        }
        return x;
    }

    static PennyBooks fullOfEditions() {
        PennyBooks x = rich();
        for (int i = 2; i < 5; i++) {
            x.edition(0);
        }
        Tests.feed(x, "if came then kind 3;");
        return x;
    }

    static PennyBooks fullOfSums() {
        PennyBooks x = rich();
        for (int i = 2; i < 40; i++) {
            x.told(1, 100 + i, i);
        }
        return x;
    }

    static PennyBooks fullOfMembers() {
        PennyBooks x = rich();
        for (int i = 4; i < 40; i++) {
            x.member(3, -2000, i, i);
        }
        return x;
    }

    static PennyBooks fullOfLosses() {
        PennyBooks x = rich();
        for (int i = 2; i < 12; i++) {
            x.loss(3, i);
        }
        return x;
    }
}
