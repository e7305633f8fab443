import java.util.ArrayList;
import java.util.List;

/** Questions that together tell all that a desk holds; each is asked on a desk of its own, since some change it. */
enum Probe {
    FRACTION_AND_FAULT, TRAYS, SORTS, PENCE, PENCE_OF_THE_LAST, ALL_KNOWN, KINDS, OTHER_KINDS, SPENT, TOLD, SLIPS,
    SUNDRIES, PRICES, MOUTHS, CHANGES, GAPS, WEIGHTS, LOSSES, MORE_FAMILIES, MORE_EDITIONS, MORE_READINGS, MORE_SUMS,
    MORE_MEMBERS, MORE_LOSSES, TAPE, WORDS, DAYS;

    static final Probe[] ALL = values();
    private static final int[] WEEKS = {10, 13, 99, 100, 101, 102};
    private static final int[] TRIED_DAYS = {0, 4, 5, 6, 8, 9, 10, 19, 20, 30, 39, 40, 41, 59, 60, 61, 62, 9998, 9999};

    List<Long> answers(PennyBooks x) {
        List<Long> told = new ArrayList<>();
        switch (this) {
            case FRACTION_AND_FAULT -> fractionAndFault(x, told);
            case TRAYS -> trays(x, told);
            case SORTS -> sorts(x, told);
            case PENCE -> pence(x, told, 0);
            case PENCE_OF_THE_LAST -> pence(x, told, 180);
            case ALL_KNOWN -> allKnown(x, told);
            case KINDS -> kinds(x, told, 0);
            case OTHER_KINDS -> kinds(x, told, 1);
            case SPENT -> spent(x, told);
            case TOLD -> sums(x, told);
            case SLIPS -> slips(x, told);
            case SUNDRIES -> sundries(x, told);
            case PRICES -> prices(x, told);
            case MOUTHS -> mouths(x, told);
            case CHANGES -> changes(x, told);
            case GAPS -> gaps(x, told);
            case WEIGHTS -> weights(x, told);
            case LOSSES -> losses(x, told);
            case TAPE -> tape(x, told);
            case WORDS -> words(x, told);
            case DAYS -> days(x, told);
            default -> room(x, told);
        }
        return told;
    }

    private static void add(PennyBooks x, List<Long> told, long answer) {
        told.add(answer);
        told.add((long) x.status());
    }

    private static void fractionAndFault(PennyBooks x, List<Long> told) {
        told.add(x.top());
        told.add(x.bottom());
        for (int what = 0; what < 3; what++) {
            told.add((long) x.fault(what));
        }
    }

    private static void trays(PennyBooks x, List<Long> told) {
        for (int tray = 0; tray < 4; tray++) {
            for (int place = 0; place < 9; place++) {
                add(x, told, x.read(tray, place));
            }
        }
    }

    private static void sorts(PennyBooks x, List<Long> told) {
        for (int tray = 0; tray < 4; tray++) {
            x.write(tray, 0, 0x1234_5678_9abc_def1L);
            add(x, told, x.read(tray, 0));
        }
    }

    private static void pence(PennyBooks x, List<Long> told, int from) {
        for (int line = from; line < from + 21; line++) {
            add(x, told, x.pence(line));
        }
    }

    private static void allKnown(PennyBooks x, List<Long> told) {
        x.asof(9999);
        pence(x, told, 0);
    }

    private static void kinds(PennyBooks x, List<Long> told, int edition) {
        for (int line = 0; line < Desks.LINES; line++) {
            add(x, told, x.kind(line, edition, 0));
            add(x, told, x.kind(line, edition, 1));
            add(x, told, x.kind(line, edition, 2));
        }
    }

    private static void spent(PennyBooks x, List<Long> told) {
        for (int family = 0; family < 4; family++) {
            for (int week : WEEKS) {
                add(x, told, x.spent(family, week, Tests.NONE, 0));
                add(x, told, x.spent(family, week, 1, 0));
            }
        }
    }

    private static void sums(PennyBooks x, List<Long> told) {
        for (int family = 0; family < 4; family++) {
            for (int week : WEEKS) {
                add(x, told, x.out(family, week));
            }
        }
        for (int week = 100; week < 141; week++) {
            add(x, told, x.out(1, week));
        }
    }

    private static void slips(PennyBooks x, List<Long> told) {
        for (int what = 0; what < 3; what++) {
            add(x, told, x.slips(0, 100, what));
            add(x, told, x.slips(2, 10, what));
        }
        for (int line = 0; line < Desks.LINES; line++) {
            add(x, told, x.slip(line));
        }
    }

    private static void sundries(PennyBooks x, List<Long> told) {
        add(x, told, x.ways(4, 0));
        for (int kind = 1; kind <= 15; kind++) {
            add(x, told, x.span(4, 0, kind, 0));
            add(x, told, x.span(4, 0, kind, 1));
        }
    }

    private static void prices(PennyBooks x, List<Long> told) {
        for (int kind = 0; kind < 3; kind++) {
            for (int what = 0; what < 3; what++) {
                add(x, told, x.price(kind, 1, 0, what));
                told.add(x.top());
                told.add(x.bottom());
            }
        }
    }

    private static void mouths(PennyBooks x, List<Long> told) {
        for (int family = 0; family < 4; family++) {
            for (int week = 0; week < 520; week += 50) {
                add(x, told, x.mouths(family, week));
            }
        }
    }

    private static void changes(PennyBooks x, List<Long> told) {
        for (int family = 0; family < 4; family++) {
            for (int what = 0; what < 3; what++) {
                add(x, told, x.change(family, what));
            }
        }
    }

    private static void gaps(PennyBooks x, List<Long> told) {
        for (int family = 0; family < 12; family++) {
            add(x, told, x.gaps(family));
        }
        for (int n = 1; n < 4; n++) {
            add(x, told, x.bound(2, 11, n, 0));
            add(x, told, x.bound(2, 12, n, 1));
        }
    }

    private static void weights(PennyBooks x, List<Long> told) {
        for (int family = 0; family < 9; family++) {
            add(x, told, x.weight(family));
        }
    }

    private static void losses(PennyBooks x, List<Long> told) {
        for (int loss = 0; loss < 12; loss++) {
            add(x, told, x.likes(loss, 2));
            add(x, told, x.fell(loss, Tests.NONE, 0, 2));
        }
        told.add(x.top());
    }

    /** How many more the desk takes. */
    private void room(PennyBooks x, List<Long> told) {
        for (int i = 0; i < 61; i++) {
            long answer = switch (this) {
                case MORE_FAMILIES -> x.family(0, 0);
                case MORE_EDITIONS -> x.edition(0);
                case MORE_READINGS -> x.reading(0, 7, 9999) ? 1 : 0;
                case MORE_SUMS -> x.told(0, 300 + i, 5) ? 1 : 0;
                case MORE_MEMBERS -> x.member(0, 0, 0, 519) ? 1 : 0;
                default -> x.loss(0, 5);
            };
            add(x, told, answer);
        }
    }

    private static void tape(PennyBooks x, List<Long> told) {
        told.add((long) x.feed(0x20202020, 0x20202020, 0x20202020, 0x20202020, 0x20202020));
        add(x, told, x.edition(20));
        for (int what = 0; what < 3; what++) {
            told.add((long) x.fault(what));
        }
        for (int line = 0; line < Desks.LINES; line++) {
            add(x, told, x.kind(line, 2, 0));
        }
    }

    /** What the next LINE has for words, and that one behind it has none. */
    private static void words(PennyBooks x, List<Long> told) {
        x.edition(0);
        add(x, told, Tests.edition(x, "if word soap and word milk then kind 7; if word soap then kind 5;"));
        int line = x.line(0, 300, 0, 5, false, 0, 9999);
        add(x, told, line);
        x.asof(9999);
        add(x, told, x.kind(line, 3, 0));
        add(x, told, x.line(0, 300, 0, 5, false, 0, 9999));
    }

    private static void days(PennyBooks x, List<Long> told) {
        for (int day : TRIED_DAYS) {
            add(x, told, x.reading(0, 7, day) ? 1 : 0);
        }
    }
}
