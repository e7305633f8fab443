import java.util.List;

/** Asks on both sides of a boundary, each time on a new desk; a refused call must leave the desk as it was. */
final class Edge {
    /** Makes a desk in a known state, the same each time. */
    interface Desk {
        PennyBooks make();
    }

    private static String sentence = "";

    private Edge() {
    }

    /** The document's sentence that the next questions are about. */
    static void sentence(String words) {
        sentence = words;
    }

    static String about(Object call) {
        return "'" + sentence + "': " + call;
    }

    static void taken(Desk desk, Call call, long answer) {
        PennyBooks x = desk.make();
        Tests.due(x, about(call), call.on(x), answer, 0);
    }

    static void status(Desk desk, Call call, int status) {
        if (status != 0) {
            refused(desk, call, status);
            return;
        }
        PennyBooks x = desk.make();
        call.on(x);
        Tests.due(about(call + " status"), x.status(), 0);
    }

    static void refused(Desk desk, Call call, int status) {
        PennyBooks x = desk.make();
        Tests.due(x, about(call), call.on(x), call.refusal(), status);
        changesNothing(desk, call);
    }

    static void changesNothing(Desk desk, Call call) {
        Desk asked = () -> {
            PennyBooks x = desk.make();
            call.on(x);
            return x;
        };
        for (Probe probe : Probe.ALL) {
            List<Long> before = probe.answers(desk.make());
            List<Long> behind = probe.answers(asked.make());
            Tests.due(about(call + " changes what " + probe + " tells"), !before.equals(behind), false);
        }
    }

    /** An argument may go from the least to the most, and not beyond (1). */
    static void range(Desk desk, Call call, int at, int least, int most) {
        range(desk, call, at, least, 0, most, 0);
    }

    /** The same, where a number at the end is taken, but finds none such. */
    static void range(Desk desk, Call call, int at, int least, int atLeast, int most, int atMost) {
        status(desk, call.with(at, least), atLeast);
        status(desk, call.with(at, most), atMost);
        for (long beyond : new long[] {least - 1L, Integer.MIN_VALUE, most + 1L, Integer.MAX_VALUE}) {
            refused(desk, call.with(at, beyond), 1);
        }
    }
}
