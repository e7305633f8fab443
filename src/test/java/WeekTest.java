/** Promises 33, 36 and 37. */
public final class WeekTest {
    public static void main(String[] args) {
        change();
        changeStatus();
        gaps();
        bounds();
        boundStatus();
        Tests.end();
    }

    private static void line(PennyBooks x, int week, int hand, int known) {
        x.words(1, 0, 0);
        x.line(0, week, 0, 5, week % 2 == 0, hand, known);
    }

    private static void best(PennyBooks x, int week, int unlike, int without) {
        Tests.due(x, "week", x.change(0, 0), week, week == -1 ? 6 : 0);
        Tests.due(x, "unlike", x.change(0, 1), unlike, unlike == -1 ? 6 : 0);
        Tests.due(x, "unlike without", x.change(0, 2), without, without == -1 ? 6 : 0);
    }

    private static void change() {
        PennyBooks x = new PennyBooks();
        x.family(0, 0);
        x.family(0, 0);
        best(x, -1, -1, -1);
        line(x, 10, 1, 0);
        line(x, 10, 2, 0);
        line(x, 10, 2, 0);
        best(x, -1, -1, 1);
        line(x, 20, 3, 1);
        best(x, 11, 1, 2);
        line(x, 20, 3, 2);
        line(x, 15, 3, 2);
        best(x, 11, 1, 3);
        line(x, 15, 2, 3);
        line(x, 15, 2, 3);
        line(x, 15, 7, 3);
        // By week: 10 has 1 2 2, 15 has 3 2 2 7, 20 has 3 3: at 11 it is 1 + 3, at 16 it is 3 + 0.
        best(x, 16, 3, 5);
        x.asof(2);
        best(x, 11, 1, 3);
        x.asof(1);
        best(x, 11, 1, 2);
        x.asof(0);
        best(x, -1, -1, 1);
        PennyBooks y = new PennyBooks();
        y.family(0, 0);
        line(y, 519, 0, 0);
        line(y, 0, 0, 0);
        best(y, 1, 0, 0);
        line(y, 518, 0, 0);
        best(y, 1, 0, 0);
        line(y, 0, 1, 0);
        best(y, 1, 1, 1);
        line(y, 0, 2, 0);
        best(y, 1, 2, 2);
        PennyBooks v = new PennyBooks();
        v.family(0, 0);
        line(v, 30, 0, 0);
        line(v, 20, 0, 0);
        line(v, 10, 0, 0);
        best(v, 11, 0, 0);
        PennyBooks z = new PennyBooks();
        z.family(0, 0);
        line(z, 518, 0, 0);
        line(z, 519, 1, 0);
        best(z, 519, 0, 1);
    }

    private static void changeStatus() {
        PennyBooks x = new PennyBooks();
        x.family(0, 0);
        line(x, 1, 0, 0);
        line(x, 2, 0, 0);
        Tests.due(x, "family 1", x.change(1, 0), -1, 1);
        Tests.due(x, "family -1", x.change(-1, 0), -1, 1);
        Tests.due(x, "what -1", x.change(0, -1), -1, 1);
        Tests.due(x, "what 3", x.change(0, 3), -1, 1);
        x.family(0, 0);
        Tests.due(x, "other families' lines don't count", x.change(1, 2), -1, 6);
    }

    private static void gaps() {
        PennyBooks x = new PennyBooks();
        x.family(0, 0);
        x.family(0, 0);
        Tests.due(x, "no lines", x.gaps(0), 0, 0);
        Tests.went(x, 0, 0, 5, "tea");
        Tests.due(x, "one week", x.gaps(0), 0, 0);
        Tests.went(x, 0, 519, 5, "tea");
        Tests.due(x, "all between", x.gaps(0), 518, 0);
        Tests.came(x, 0, 7, 5, "wage");
        Tests.went(x, 1, 7, 5, "tea");
        Tests.due(x, "what came, or others' lines, fill none", x.gaps(0), 518, 0);
        Tests.went(x, 0, 7, 5, "tea");
        Tests.went(x, 0, 7, 5, "tea");
        Tests.due(x, "one less", x.gaps(0), 517, 0);
        x.words(1, 0, 0);
        x.line(0, 8, 0, 5, false, 0, 3);
        Tests.due(x, "two less", x.gaps(0), 516, 0);
        x.asof(2);
        Tests.due(x, "as known", x.gaps(0), 517, 0);
        Tests.due(x, "no family", x.gaps(2), -1, 1);
        Tests.due(x, "no family", x.gaps(-1), -1, 1);
    }

    private static void bound(PennyBooks x, int week, int n, int least, int greatest) {
        Tests.due(x, "least", x.bound(0, week, n, 0), least, least == -1 ? 6 : 0);
        Tests.due(x, "greatest", x.bound(0, week, n, 1), greatest, least == -1 ? 6 : 0);
    }

    private static void bounds() {
        PennyBooks x = new PennyBooks();
        x.family(0, 0);
        x.family(0, 0);
        Tests.went(x, 0, 100, 50, "tea");
        Tests.went(x, 0, 104, 20, "tea");
        Tests.went(x, 0, 104, 10, "pie");
        Tests.went(x, 0, 163, 1, "tea");
        Tests.went(x, 1, 101, 1, "tea");
        Tests.came(x, 0, 102, 1, "wage");
        bound(x, 100, 1, -1, -1);
        bound(x, 99, 1, -1, -1);
        bound(x, 164, 1, -1, -1);
        bound(x, 102, 1, -1, -1);
        bound(x, 102, 2, 30, 50);
        bound(x, 101, 1, 50, 50);
        bound(x, 101, 2, 50, 50);
        bound(x, 101, 3, 30, 50);
        bound(x, 103, 1, 30, 30);
        bound(x, 103, 59, 30, 50);
        bound(x, 103, 60, 1, 50);
        bound(x, 162, 60, 1, 30);
    }

    private static void boundStatus() {
        PennyBooks x = new PennyBooks();
        x.family(0, 0);
        Tests.due(x, "no lines", x.bound(0, 5, 1, 0), -1, 6);
        Tests.went(x, 0, 0, 50, "tea");
        Tests.went(x, 0, 519, 20, "tea");
        bound(x, 60, 60, 50, 50);
        bound(x, 459, 60, 20, 20);
        bound(x, 61, 60, -1, -1);
        Tests.due(x, "no family", x.bound(1, 5, 1, 0), -1, 1);
        Tests.due(x, "no week", x.bound(0, -1, 1, 0), -1, 1);
        Tests.due(x, "no week", x.bound(0, 520, 1, 0), -1, 1);
        Tests.due(x, "n 0", x.bound(0, 5, 0, 0), -1, 1);
        Tests.due(x, "n 61", x.bound(0, 5, 61, 0), -1, 1);
        Tests.due(x, "what -1", x.bound(0, 5, 1, -1), -1, 1);
        Tests.due(x, "what 2", x.bound(0, 5, 1, 2), -1, 1);
    }
}
