/** Promises 1 to 8. */
public final class TrayTest {
    public static void main(String[] args) {
        newObject();
        trays();
        writing();
        pouring();
        statusStays();
        Tests.end();
    }

    private static void newObject() {
        PennyBooks x = new PennyBooks();
        Tests.due("new status", x.status(), 0);
        Tests.due("new top", x.top(), 0);
        Tests.due("new bottom", x.bottom(), 1);
        for (int tray = 0; tray < 4; tray++) {
            Tests.due(x, "new read", x.read(tray, 0), -1, 2);
            Tests.due(x, "new write", x.write(tray, 0, 1), 2);
        }
        Tests.due(x, "new gaps", x.gaps(0), -1, 1);
        Tests.due(x, "new pence", x.pence(0), -1, 1);
        Tests.due(x, "new edition", x.edition(1), -1, 1);
        Tests.due("new fault", x.fault(0), -1);
        Tests.due(x, "new moved", x.moved(0, 0), -1, 1);
        Tests.due(x, "new likes", x.likes(0, 1), -1, 1);
        Tests.due(x, "new weight", x.weight(0), -1, 6);
        x.family(0, 0);
        x.words(1, 0, 0);
        x.line(0, 0, 0, 7, false, 0, 9999);
        Tests.due(x, "as of 9,999 at first", x.pence(0), 7, 0);
    }

    private static void trays() {
        PennyBooks x = new PennyBooks();
        Tests.due(x, "tray -1", x.tray(-1, 0, 1), 1);
        Tests.due(x, "tray 4", x.tray(4, 0, 1), 1);
        Tests.due(x, "sort -1", x.tray(0, -1, 1), 1);
        Tests.due(x, "sort 4", x.tray(0, 4, 1), 1);
        Tests.due(x, "many -1", x.tray(0, 0, -1), 1);
        Tests.due(x, "many 61", x.tray(0, 0, 61), 1);
        Tests.due(x, "still missing", x.read(0, 0), -1, 2);
        Tests.due(x, "an empty one", x.tray(3, 3, 0), 0);
        Tests.due(x, "has no place", x.read(3, 0), -1, 3);
        Tests.due(x, "the longest", x.tray(0, 3, 60), 0);
        Tests.due(x, "its last", x.read(0, 59), 0, 0);
        Tests.due(x, "behind it", x.read(0, 60), -1, 3);
        Tests.due(x, "ahead of it", x.read(0, -1), -1, 3);
        x.write(0, 59, 5);
        Tests.due(x, "anew", x.tray(0, 3, 60), 0);
        Tests.due(x, "0 again", x.read(0, 59), 0, 0);
        x.write(0, 1, 5);
        x.tray(0, 2, 1);
        Tests.due(x, "shorter", x.read(0, 1), -1, 3);
        x.tray(0, 2, 2);
        Tests.due(x, "0s again", x.read(0, 1), 0, 0);
    }

    private static void writing() {
        PennyBooks x = new PennyBooks();
        long v = 0x1234_5678_9abc_def0L;
        long[] kept = {(byte) v, (short) v, (int) v, v};
        for (int sort = 0; sort < 4; sort++) {
            x.tray(sort, sort, 3);
            Tests.due(x, "write", x.write(sort, 2, v), 0);
            Tests.due(x, "read", x.read(sort, 2), kept[sort], 0);
            Tests.due(x, "beside", x.read(sort, 1), 0, 0);
            Tests.due(x, "write -1", x.write(sort, 0, -1), 0);
            Tests.due(x, "read -1", x.read(sort, 0), -1, 0);
        }
        x.write(0, 0, 128);
        Tests.due(x, "128 in 8 bits", x.read(0, 0), -128, 0);
        x.write(1, 0, 40000);
        Tests.due(x, "40000 in 16 bits", x.read(1, 0), 40000 - 65536, 0);
        x.write(2, 0, 1L << 31);
        Tests.due(x, "2 to the 31st in 32 bits", x.read(2, 0), -(1L << 31), 0);
        Tests.due(x, "no tray", x.write(4, 0, 1), 1);
        Tests.due(x, "no tray", x.read(-1, 0), -1, 1);
        Tests.due(x, "no place", x.write(0, 3, 1), 3);
        Tests.due(x, "no place", x.write(0, Integer.MIN_VALUE, 1), 3);
        Tests.due(x, "no place", x.read(0, Integer.MAX_VALUE), -1, 3);
    }

    private static void pouring() {
        PennyBooks x = new PennyBooks();
        x.tray(0, 2, 5);
        x.tray(1, 2, 3);
        x.tray(2, 1, 5);
        for (int i = 0; i < 5; i++) {
            x.write(0, i, i + 1);
        }
        Tests.due(x, "pour", x.pour(0, 1, 1, 0, 3), 0);
        row(x, 1, 2, 3, 4);
        Tests.due(x, "pour onto itself", x.pour(0, 0, 0, 1, 4), 0);
        row(x, 0, 1, 1, 2, 3, 4);
        Tests.due(x, "and back", x.pour(0, 1, 0, 0, 4), 0);
        row(x, 0, 1, 2, 3, 4, 4);
        Tests.due(x, "none at the end", x.pour(0, 5, 1, 3, 0), 0);
        Tests.due(x, "from below 0", x.pour(0, -1, 1, 0, 1), 1);
        Tests.due(x, "to below 0", x.pour(0, 0, 1, -1, 1), 1);
        Tests.due(x, "many below 0", x.pour(0, 0, 1, 0, -1), 1);
        Tests.due(x, "no tray", x.pour(4, 0, 3, 0, 1), 1);
        Tests.due(x, "no tray", x.pour(3, 0, 4, 0, 1), 1);
        Tests.due(x, "below 0 ahead of missing", x.pour(3, -1, 3, 0, 1), 1);
        Tests.due(x, "missing", x.pour(3, 0, 2, 0, 99), 2);
        Tests.due(x, "missing", x.pour(2, 0, 3, 0, 99), 2);
        Tests.due(x, "unlike sorts ahead of places", x.pour(0, 99, 2, 99, 99), 8);
        Tests.due(x, "too few to take", x.pour(0, 4, 1, 0, 2), 3);
        Tests.due(x, "too few to fill", x.pour(0, 0, 1, 1, 3), 3);
        Tests.due(x, "far too many", x.pour(0, 1, 1, 1, Integer.MAX_VALUE), 3);
        Tests.due(x, "far too far", x.pour(0, Integer.MAX_VALUE, 1, 1, 1), 3);
        row(x, 1, 2, 3, 4);
    }

    private static void row(PennyBooks x, int tray, long... want) {
        for (int i = 0; i < want.length; i++) {
            Tests.due(x, "tray " + tray + " place " + i, x.read(tray, i), want[i], 0);
        }
    }

    /** status(), top(), bottom(), feed() and fault() have no STATUS of their own. */
    private static void statusStays() {
        PennyBooks x = new PennyBooks();
        x.read(0, 0);
        x.status();
        x.top();
        x.bottom();
        x.feed(0, 0, 0, 0, 0);
        x.fault(7);
        Tests.due("status of the latest call that has one", x.status(), 2);
        x.tray(0, 0, 1);
        Tests.due("and of the next", x.status(), 0);
    }
}
