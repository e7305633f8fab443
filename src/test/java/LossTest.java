/** Promises 38 to 40. */
public final class LossTest {
    public static void main(String[] args) {
        losses();
        fell();
        likes();
        firstFamily();
        edges();
        status();
        Tests.end();
    }

    private static void losses() {
        PennyBooks x = new PennyBooks();
        x.family(0, 0);
        Tests.due(x, "no family", x.loss(1, 0), -1, 1);
        Tests.due(x, "no family", x.loss(-1, 0), -1, 1);
        Tests.due(x, "no week", x.loss(0, -1), -1, 1);
        Tests.due(x, "no week", x.loss(0, 520), -1, 1);
        for (int i = 0; i < 12; i++) {
            Tests.due(x, "loss", x.loss(0, i * 47), i, 0);
        }
        Tests.due(x, "a 13th", x.loss(0, 0), -1, 4);
        Tests.due(x, "1 ahead of 4", x.loss(0, 520), -1, 1);
    }

    /** A LINE of tea in each of the weeks given, so many pence in them. */
    private static void lines(PennyBooks x, int family, int from, int... pence) {
        for (int i = 0; i < pence.length; i++) {
            Tests.went(x, family, from + i, pence[i], "tea");
        }
    }

    private static void fell() {
        PennyBooks x = new PennyBooks();
        for (int i = 0; i < 5; i++) {
            x.family(i == 4 ? 1 : 0, 0);
        }
        int e = Tests.edition(x, "if word tea then kind 1;");
        int loss = x.loss(0, 102);
        Tests.due(x, "no lines", x.fell(loss, 1, e, 2), -1, 6);
        lines(x, 0, 100, 50, 60, 20, 30);
        Tests.due(x, "no like ones", x.fell(loss, 1, e, 2), -1, 6);
        lines(x, 4, 100, 50, 60, 20, 30);
        Tests.due(x, "of another class", x.fell(loss, 1, e, 2), -1, 6);
        lines(x, 1, 100, 10, 10, 10, 10);
        Tests.fraction(x, "one like it", x.fell(loss, 1, e, 2), -60, 1);
        lines(x, 2, 100, 10, 10, 10, 11);
        Tests.fraction(x, "two like it", x.fell(loss, 1, e, 2), -121, 2);
        lines(x, 3, 100, 10, 10, 10, 15);
        Tests.fraction(x, "three like it", x.fell(loss, 1, e, 2), -62, 1);
        Tests.fraction(x, "over one week", x.fell(loss, 1, e, 1), -40, 1);
        Tests.went(x, 2, 103, 100, "pie");
        Tests.fraction(x, "on tea", x.fell(loss, 1, e, 2), -62, 1);
        Tests.fraction(x, "on sundries", x.fell(loss, 0, e, 2), -100, 3);
        Tests.fraction(x, "on nothing", x.fell(loss, 2, e, 2), 0, 1);
        Tests.fraction(x, "on all", x.fell(loss, Tests.NONE, e, 2), -286, 3);
        Tests.went(x, 0, 102, 400, "pie");
        Tests.fraction(x, "on all, above", x.fell(loss, Tests.NONE, e, 2), 914, 3);
        Tests.came(x, 0, 102, 400, "pie");
        Tests.fraction(x, "what came is not spent", x.fell(loss, Tests.NONE, e, 2), 914, 3);
    }

    private static void likes() {
        PennyBooks x = new PennyBooks();
        for (int i = 0; i < 4; i++) {
            x.family(2, i);
        }
        int e = x.edition(0);
        int loss = x.loss(0, 102);
        Tests.due(x, "none", x.likes(loss, 2), 0, 0);
        lines(x, 1, 100, 1, 1, 1, 1);
        lines(x, 2, 100, 1, 1, 1);
        Tests.came(x, 2, 103, 1, "tea");
        lines(x, 3, 101, 1, 1, 1);
        Tests.due(x, "one that went in each", x.likes(loss, 2), 1, 0);
        Tests.due(x, "though it has no lines itself", x.fell(loss, Tests.NONE, e, 2), -1, 6);
        Tests.due(x, "over one week", x.likes(loss, 1), 3, 0);
        x.loss(1, 99);
        x.loss(1, 104);
        Tests.due(x, "losses outside", x.likes(loss, 2), 1, 0);
        x.loss(2, 100);
        Tests.due(x, "a loss in other weeks", x.likes(loss, 1), 3, 0);
        x.loss(3, 101);
        Tests.due(x, "a loss in the first", x.likes(loss, 1), 2, 0);
        x.loss(1, 103);
        Tests.due(x, "a loss in the last", x.likes(loss, 2), 0, 0);
        Tests.due(x, "behind the last", x.likes(loss, 1), 2, 0);
        lines(x, 0, 101, 5, 5);
        x.loss(0, 101);
        Tests.fraction(x, "its own losses don't count", x.fell(loss, Tests.NONE, e, 1), 0, 1);
        x.words(1, 0, 0);
        x.line(3, 100, 0, 5, false, 0, 9);
        int other = x.loss(2, 300);
        lines(x, 3, 299, 1, 1);
        Tests.due(x, "no days back", x.likes(other, 1), 0, 0);
        x.asof(8);
        Tests.due(x, "as known", x.likes(loss, 1), 2, 0);
    }

    /** The first FAMILY may be like, and the first LOSS may be the one that keeps it from that. */
    private static void firstFamily() {
        PennyBooks x = new PennyBooks();
        x.family(0, 0);
        x.family(0, 0);
        int e = x.edition(0);
        int own = x.loss(0, 300);
        int loss = x.loss(1, 101);
        lines(x, 0, 100, 1, 2);
        lines(x, 1, 100, 7, 5);
        Tests.due(x, "family 0 is like", x.likes(loss, 1), 1, 0);
        Tests.fraction(x, "beside family 0", x.fell(loss, 0, e, 1), -3, 1);
        lines(x, 1, 299, 7, 5);
        lines(x, 0, 299, 7, 5);
        Tests.due(x, "family 1 is like", x.likes(own, 1), 1, 0);
        int later = x.loss(1, 299);
        Tests.due(x, "lost, too", x.likes(own, 1), 0, 0);
        Tests.due(x, "lost by the first loss", x.likes(later, 2), 0, 0);
        lines(x, 0, 297, 1, 1);
        Tests.due(x, "though there each week", x.likes(later, 2), 0, 0);
        Tests.due(x, "not so a week ahead", x.likes(later, 1), 1, 0);
    }

    private static void edges() {
        PennyBooks x = new PennyBooks();
        x.family(0, 0);
        x.family(0, 0);
        int e = x.edition(0);
        int first = x.loss(0, 26);
        int early = x.loss(0, 25);
        int last = x.loss(0, 494);
        int late = x.loss(0, 495);
        int none = x.loss(0, 0);
        Tests.due(x, "weeks 0 to 51", x.likes(first, 26), 0, 0);
        Tests.due(x, "from -1", x.likes(early, 26), -1, 6);
        Tests.due(x, "from -1", x.fell(early, 0, e, 26), -1, 6);
        Tests.due(x, "weeks 468 to 519", x.likes(last, 26), 0, 0);
        Tests.due(x, "to 520", x.likes(late, 26), -1, 6);
        Tests.due(x, "to 520", x.fell(late, 0, e, 26), -1, 6);
        Tests.due(x, "week 0", x.likes(none, 1), -1, 6);
        for (int week = 0; week < 52; week++) {
            Tests.went(x, 0, week, 2, "tea");
            Tests.went(x, 1, week, week < 26 ? 1 : 2, "tea");
        }
        Tests.due(x, "52 weeks", x.likes(first, 26), 1, 0);
        Tests.fraction(x, "52 weeks", x.fell(first, 0, e, 26), -26, 1);
    }

    private static void status() {
        PennyBooks x = new PennyBooks();
        x.family(0, 0);
        x.family(0, 0);
        int e = x.edition(0);
        int loss = x.loss(0, 100);
        lines(x, 0, 99, 5, 5);
        lines(x, 1, 99, 5, 6);
        Tests.fraction(x, "one less", x.fell(loss, 0, e, 1), -1, 1);
        Tests.due(x, "no loss", x.fell(1, 0, e, 1), -1, 1);
        Tests.due(x, "no loss", x.fell(-1, 0, e, 1), -1, 1);
        Tests.due(x, "kind -2", x.fell(loss, -2, e, 1), -1, 1);
        Tests.due(x, "kind 16", x.fell(loss, 16, e, 1), -1, 1);
        Tests.due(x, "no edition", x.fell(loss, 0, e + 1, 1), -1, 1);
        Tests.due(x, "n 0", x.fell(loss, 0, e, 0), -1, 1);
        Tests.due(x, "n 27", x.fell(loss, 0, e, 27), -1, 1);
        Tests.due(x, "no loss", x.likes(1, 1), -1, 1);
        Tests.due(x, "no loss", x.likes(-1, 1), -1, 1);
        Tests.due(x, "n 0", x.likes(loss, 0), -1, 1);
        Tests.due(x, "n 27", x.likes(loss, 27), -1, 1);
        int early = x.loss(0, 0);
        Tests.due(x, "1 ahead of 6", x.fell(early, 16, e, 1), -1, 1);
        Tests.due("the fraction stays", x.top(), -1);
    }
}
