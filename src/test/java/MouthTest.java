/** Promises 28 to 32. */
public final class MouthTest {
    public static void main(String[] args) {
        members();
        ages();
        scale();
        share();
        prices();
        shut();
        priceStatus();
        Tests.end();
    }

    private static void members() {
        PennyBooks x = new PennyBooks();
        x.family(0, 0);
        x.family(0, 0);
        Tests.due(x, "family 2", x.member(2, 0, 0, 0), 1);
        Tests.due(x, "family -1", x.member(-1, 0, 0, 0), 1);
        Tests.due(x, "born -5201", x.member(0, -5201, 0, 0), 1);
        Tests.due(x, "born 520", x.member(0, 520, 519, 519), 1);
        Tests.due(x, "from -1", x.member(0, -1, -1, 0), 1);
        Tests.due(x, "from 520", x.member(0, 0, 520, 520), 1);
        Tests.due(x, "to 520", x.member(0, 0, 0, 520), 1);
        Tests.due(x, "to ahead of from", x.member(0, 0, 5, 4), 1);
        Tests.due(x, "there ahead of being born", x.member(0, 6, 5, 9), 1);
        Tests.due(x, "there from being born", x.member(0, 5, 5, 9), 0);
        Tests.due(x, "one week", x.member(1, -5200, 7, 7), 0);
        Tests.due(x, "the last week", x.member(1, 519, 519, 519), 0);
        Tests.due(x, "ahead", x.mouths(0, 4), 0, 0);
        Tests.due(x, "first", x.mouths(0, 5), 30, 0);
        Tests.due(x, "last", x.mouths(0, 9), 30, 0);
        Tests.due(x, "behind", x.mouths(0, 10), 0, 0);
        Tests.due(x, "others", x.mouths(1, 7), 100, 0);
        Tests.due(x, "others", x.mouths(1, 6), 0, 0);
        Tests.due(x, "others", x.mouths(1, 519), 30, 0);
        Tests.due(x, "no family", x.mouths(2, 5), -1, 1);
        Tests.due(x, "no week", x.mouths(0, 520), -1, 1);
        Tests.due(x, "no week", x.mouths(0, -1), -1, 1);
        for (int i = 0; i < 37; i++) {
            Tests.due(x, "member", x.member(0, -2000, 100, 200), 0);
        }
        Tests.due(x, "a 41st", x.member(0, -2000, 100, 200), 4);
        Tests.due(x, "1 ahead of 4", x.member(0, -2000, 100, 99), 1);
        Tests.due(x, "37 of them", x.mouths(0, 150), 3700, 0);
    }

    private static void ages() {
        PennyBooks x = new PennyBooks();
        x.family(0, 0);
        x.member(0, -300, 0, 519);
        x.family(0, 0);
        x.member(1, -400, 0, 519);
        // Family 0's is 5 behind week -40 (-300 + 260), 10 from 220, 15 from 480; family 1's 15 from 380.
        int[] weeks = {0, 219, 220, 479, 480, 519};
        int[] mouths = {50, 50, 70, 70, 100, 100};
        for (int i = 0; i < weeks.length; i++) {
            Tests.due(x, "week " + weeks[i], x.mouths(0, weeks[i]), mouths[i], 0);
        }
        Tests.due(x, "14", x.mouths(1, 379), 70, 0);
        Tests.due(x, "15", x.mouths(1, 380), 100, 0);
        x.family(0, 0);
        x.member(2, 10, 10, 519);
        Tests.due(x, "4", x.mouths(2, 269), 30, 0);
        Tests.due(x, "5", x.mouths(2, 270), 50, 0);
    }

    private static void scale() {
        PennyBooks x = new PennyBooks();
        x.family(0, 0);
        for (int age = 0; age < 20; age += 5) {
            x.member(0, -52 * age, 0, 0);
        }
        Tests.due(x, "at first", x.mouths(0, 0), 250, 0);
        for (int i = 0; i < 4; i++) {
            Tests.due(x, "-1", x.scale(i == 0 ? -1 : 0, i == 1 ? -1 : 0, i == 2 ? -1 : 0, i == 3 ? -1 : 0), 1);
            Tests.due(x, "101", x.scale(i == 0 ? 101 : 0, i == 1 ? 101 : 0, i == 2 ? 101 : 0, i == 3 ? 101 : 0), 1);
        }
        Tests.due(x, "not changed", x.mouths(0, 0), 250, 0);
        Tests.due(x, "scale", x.scale(1, 0, 100, 7), 0);
        Tests.due(x, "changed", x.mouths(0, 0), 108, 0);
        Tests.due(x, "none", x.scale(0, 0, 0, 0), 0);
        Tests.due(x, "no mouths", x.mouths(0, 0), 0, 0);
    }

    private static void share() {
        PennyBooks x = new PennyBooks();
        x.family(0, 0);
        int e = Tests.edition(x, "if word tea then kind 1;");
        Tests.went(x, 0, 5, 60, "tea");
        Tests.went(x, 0, 5, 7, "pie");
        Tests.due(x, "no mouths", x.share(0, 5, 1, e), -1, 6);
        x.member(0, -2000, 0, 519);
        x.member(0, 0, 0, 519);
        Tests.due(x, "mouths", x.mouths(0, 5), 130, 0);
        Tests.fraction(x, "share", x.share(0, 5, 1, e), 600, 13);
        Tests.fraction(x, "all", x.share(0, 5, Tests.NONE, e), 670, 13);
        Tests.fraction(x, "nothing", x.share(0, 5, 2, e), 0, 1);
        x.scale(50, 0, 0, 100);
        Tests.fraction(x, "whole", x.share(0, 5, 1, e), 40, 1);
        Tests.due(x, "no family", x.share(1, 5, 1, e), -1, 1);
        Tests.due(x, "no week", x.share(0, 520, 1, e), -1, 1);
        Tests.due(x, "kind 16", x.share(0, 5, 16, e), -1, 1);
        Tests.due(x, "kind -2", x.share(0, 5, -2, e), -1, 1);
        Tests.due(x, "no edition", x.share(0, 5, 1, e + 1), -1, 1);
        Tests.due("the fraction stays", x.top(), 40);
        x.scale(1, 0, 0, 0);
        Tests.fraction(x, "a hundredth of a mouth", x.share(0, 5, 1, e), 6000, 1);
        x.scale(50, 0, 0, 100);
        x.share(0, 5, 1, e);
        x.scale(0, 0, 0, 0);
        Tests.due(x, "no mouths", x.share(0, 5, 1, e), -1, 6);
        Tests.due("the fraction stays", x.top(), 40);
        Tests.due("the fraction stays", x.bottom(), 1);
    }

    private static int line(PennyBooks x, int family, int week, int pence, int units) {
        x.words(Tests.word("tea"), 0, 0);
        return x.line(family, week, units, pence, false, 0, 0);
    }

    private static PennyBooks shops() {
        PennyBooks x = new PennyBooks();
        for (int i = 0; i < 12; i++) {
            x.family(0, 0);
        }
        Tests.edition(x, "if word tea then kind 3 units shop;");
        x.rules(10, 1);
        return x;
    }

    private static void prices() {
        PennyBooks x = shops();
        line(x, 0, 52, 10, 4);
        Tests.fraction(x, "least of one", x.price(3, 1, 0, 0), 5, 2);
        Tests.fraction(x, "middle of one", x.price(3, 1, 0, 1), 5, 2);
        Tests.fraction(x, "greatest of one", x.price(3, 1, 0, 2), 5, 2);
        line(x, 0, 103, 7, 3);
        Tests.fraction(x, "least of two", x.price(3, 1, 0, 0), 7, 3);
        Tests.fraction(x, "the lesser of both", x.price(3, 1, 0, 1), 7, 3);
        Tests.fraction(x, "greatest of two", x.price(3, 1, 0, 2), 5, 2);
        line(x, 1, 60, 9, 9);
        Tests.fraction(x, "least of three", x.price(3, 1, 0, 0), 1, 1);
        Tests.fraction(x, "middle of three", x.price(3, 1, 0, 1), 7, 3);
        line(x, 1, 60, 20000, 1);
        Tests.fraction(x, "middle of four", x.price(3, 1, 0, 1), 7, 3);
        Tests.fraction(x, "greatest of four", x.price(3, 1, 0, 2), 20000, 1);
        line(x, 1, 51, 1, 9);
        line(x, 1, 104, 1, 9);
        Tests.came(x, 1, 60, 1, "tea");
        Tests.went(x, 1, 60, 1, "pie");
        Tests.fraction(x, "of other years, kinds, or what came: none", x.price(3, 1, 0, 0), 1, 1);
        Tests.fraction(x, "year 0", x.price(3, 0, 0, 0), 1, 9);
        Tests.fraction(x, "sundries", x.price(0, 1, 0, 0), 1, 1);
        x.reading(2, 2, 1);
        Tests.fraction(x, "as read", x.price(3, 1, 0, 0), 2, 9);
        x.asof(0);
        Tests.fraction(x, "as read by then", x.price(3, 1, 0, 0), 1, 1);
    }

    private static void shut() {
        PennyBooks x = shops();
        x.rules(10, 3);
        PennyBooks y = new PennyBooks();
        y.family(0, 0);
        y.family(0, 0);
        y.family(0, 0);
        y.edition(0);
        for (int i = 0; i < 3; i++) {
            Tests.due(y, "no line", y.price(0, 0, 0, 0), -1, i == 0 ? 6 : 7);
            Tests.went(y, i, 0, 5, "tea");
        }
        Tests.fraction(y, "three families at first", y.price(0, 0, 0, 0), 5, 1);
        line(x, 0, 0, 5, 1);
        line(x, 0, 0, 6, 1);
        line(x, 1, 0, 7, 1);
        Tests.due(x, "two families", x.price(3, 0, 0, 0), -1, 7);
        line(x, 11, 52, 7, 1);
        Tests.came(x, 11, 0, 7, "tea");
        Tests.due(x, "a third in another year, or that came", x.price(3, 0, 0, 0), -1, 7);
        line(x, 11, 0, 7, 1);
        Tests.fraction(x, "three families", x.price(3, 0, 0, 0), 5, 1);
        x.rules(10, 4);
        Tests.due(x, "shut again", x.price(3, 0, 0, 2), -1, 7);
        Tests.due("the fraction stays", x.top(), 5);
    }

    private static void priceStatus() {
        PennyBooks x = shops();
        line(x, 0, 519, 5, 1);
        Tests.fraction(x, "the last year", x.price(3, 9, 0, 0), 5, 1);
        Tests.due(x, "no line", x.price(4, 9, 0, 0), -1, 6);
        Tests.due(x, "no line", x.price(3, 8, 0, 0), -1, 6);
        Tests.due(x, "kind -1", x.price(-1, 9, 0, 0), -1, 1);
        Tests.due(x, "kind 16", x.price(16, 9, 0, 0), -1, 1);
        Tests.due(x, "year -1", x.price(3, -1, 0, 0), -1, 1);
        Tests.due(x, "year 10", x.price(3, 10, 0, 0), -1, 1);
        Tests.due(x, "edition 1", x.price(3, 9, 1, 0), -1, 1);
        Tests.due(x, "edition -1", x.price(3, 9, -1, 0), -1, 1);
        Tests.due(x, "what 3", x.price(3, 9, 0, 3), -1, 1);
        Tests.due(x, "what -1", x.price(3, 9, 0, -1), -1, 1);
        x.rules(10, 12);
        Tests.due(x, "6 ahead of 7", x.price(4, 9, 0, 0), -1, 6);
    }
}
