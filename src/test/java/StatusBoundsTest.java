/** Promises 2 to 4 and the document's part 6: what STATUS is, and what a refused call may change. */
public final class StatusBoundsTest {
    public static void main(String[] args) {
        callsWithoutStatus();
        statusOfTheLatest();
        faultyEditionChangesTheTapeAlone();
        takenCallsAreSeen();
        questionsChangeNothing();
        fractionsStay();
        signsOfFractions();
        atMost512Calls();
        Tests.end();
    }

    private static void callsWithoutStatus() {
        Edge.sentence("status(), top(), bottom(), feed(), fault() have none");
        Call[] calls = {Call.of("status"), Call.of("top"), Call.of("bottom"), Call.of("feed", 1, 2, 3, 4, 5),
            Call.of("fault", 0), Call.of("fault", 3), Call.of("fault", -1)};
        for (Call call : calls) {
            PennyBooks x = Desks.rich();
            x.read(3, 0);
            call.on(x);
            Tests.due(Edge.about(call), x.status(), 2);
            x.read(0, 0);
            call.on(x);
            Tests.due(Edge.about(call), x.status(), 0);
            x = new PennyBooks();
            call.on(x);
            Tests.due(Edge.about(call + " on a new one"), x.status(), 0);
        }
        PennyBooks full = Desks.fullOfLines();
        full.read(3, 0);
        for (int i = 0; i < 31; i++) {
            full.feed(0, 0, 0, 0, 0);
        }
        Tests.due(Edge.about("feed() that gives NONE"), full.status(), 2);
    }

    /** One call of each STATUS, and one with 0 behind it. */
    private static void statusOfTheLatest() {
        Edge.sentence("STATUS of the latest call that has one");
        PennyBooks x = Desks.rich();
        Tests.due(x, Edge.about("1"), x.tray(4, 0, 0), 1);
        Tests.due(x, Edge.about("2"), x.read(3, 0), -1, 2);
        Tests.due(x, Edge.about("3"), x.read(0, 3), -1, 3);
        Tests.due(x, Edge.about("5"), x.reading(0, 5, 0), 5);
        Tests.due(x, Edge.about("6"), x.pence(15), -1, 6);
        Tests.due(x, Edge.about("7"), x.price(2, 1, 0, 0), -1, 7);
        Tests.due(x, Edge.about("8"), x.pour(0, 0, 1, 0, 1), 8);
        Tests.due(x, Edge.about("9"), x.edition(19), -1, 9);
        Tests.due(x, Edge.about("0"), x.pence(14), 7, 0);
        x = Desks.fullOfFamilies();
        Tests.due(x, Edge.about("4"), x.family(0, 0), -1, 4);
        Tests.due(Edge.about("still 4"), x.status(), 4);
        Tests.due(x, Edge.about("0"), x.gaps(11), 0, 0);
    }

    private static void faultyEditionChangesTheTapeAlone() {
        Edge.sentence("changes nothing else (but edition() with 9 the tape, and what fault() tells)");
        for (Probe probe : Probe.ALL) {
            PennyBooks before = Desks.rich();
            PennyBooks behind = Desks.rich();
            Tests.due(behind, Edge.about("a FAULT"), behind.edition(19), -1, 9);
            boolean may = probe == Probe.TAPE || probe == Probe.FRACTION_AND_FAULT;
            boolean same = probe.answers(before).equals(probe.answers(behind));
            Tests.due(Edge.about("what " + probe + " tells"), may || same, true);
        }
        PennyBooks x = Desks.rich();
        x.edition(19);
        Tests.due(Edge.about("the FAULT"), x.fault(0), 2);
        Tests.due(Edge.about("its place"), x.fault(1), 19);
        Tests.due(Edge.about("top stays"), x.top(), 240);
        Tests.due(Edge.about("bottom stays"), x.bottom(), 13);
        Tests.due(Edge.about("the tape is empty"), x.feed(0, 0, 0, 0, 0), 20);
    }

    /** Whether the questions that look for changes would see one: every call that changes something must be seen. */
    private static void takenCallsAreSeen() {
        Edge.sentence("calls with STATUS 0");
        Call[] changing = {Call.of("tray", 0, 0, 3), Call.of("tray", 3, 0, 0), Call.of("tray", 2, 2, 3),
            Call.of("write", 0, 0, 8L), Call.of("pour", 2, 1, 1, 0, 1), Call.of("family", 0, 0),
            Call.of("words", 1L, 0L, 0L), Call.of("line", 0, 100, 0, 1, false, 0, 61),
            Call.of("line", 3, 0, 0, 1, true, 0, 62),
            Call.of("reading", 0, 99, 61), Call.of("reading", 0, 30, 62), Call.of("asof", 60), Call.of("asof", 29),
            Call.of("feed", 0, 0, 0, 0, 0), Call.of("edition", 20), Call.of("edition", 0), Call.of("told", 0, 100, 53),
            Call.of("told", 3, 100, 0), Call.of("rules", 10, 2), Call.of("rules", 9, 3), Call.of("rules", 9, 1),
            Call.of("rules", 8, 2), Call.of("member", 0, 0, 0, 0), Call.of("scale", 32, 51, 71, 99),
            Call.of("scale", 31, 52, 71, 99), Call.of("scale", 31, 51, 72, 99), Call.of("scale", 31, 51, 71, 98),
            Call.of("share", 0, 100, 2, 0), Call.of("price", 1, 1, 0, 0), Call.of("weights", 2, 4, 1),
            Call.of("weights", 3, 1, 1), Call.of("loss", 3, 5), Call.of("fell", 0, -1, 0, 2)};
        for (Call call : changing) {
            Edge.status(Desks::rich, call, 0);
            int seen = 0;
            for (Probe probe : Probe.ALL) {
                PennyBooks x = Desks.rich();
                call.on(x);
                seen += probe.answers(Desks.rich()).equals(probe.answers(x)) ? 0 : 1;
            }
            Tests.due(Edge.about(call + " is seen"), seen > 0, true);
        }
    }

    private static void questionsChangeNothing() {
        Edge.sentence("calls that only tell something");
        Call[] asking = {Call.of("status"), Call.of("top"), Call.of("bottom"), Call.of("read", 0, 0),
            Call.of("pence", 0), Call.of("fault", 0), Call.of("kind", 0, 0, 0), Call.of("moved", 0, 1),
            Call.of("spent", 0, 100, 1, 0), Call.of("out", 0, 100), Call.of("slips", 0, 100, 0),
            Call.of("slip", 1), Call.of("ways", 4, 0), Call.of("span", 4, 0, 1, 0),
            Call.of("mouths", 0, 100), Call.of("change", 0, 0), Call.of("weight", 0), Call.of("gaps", 0),
            Call.of("bound", 2, 11, 1, 0), Call.of("likes", 0, 2)};
        for (Call call : asking) {
            Edge.status(Desks::rich, call, 0);
            Edge.changesNothing(Desks::rich, call);
        }
    }

    private static void fractionsStay() {
        Edge.sentence("The top of the FRACTION told latest");
        PennyBooks x = Desks.rich();
        Tests.fraction(x, Edge.about("price()"), x.price(1, 1, 0, 0), 5, 1);
        Tests.due(x, Edge.about("a refused share()"), x.share(1, 100, 1, 0), -1, 6);
        Tests.due(x, Edge.about("a refused price()"), x.price(2, 1, 0, 0), -1, 7);
        Tests.due(x, Edge.about("a refused fell()"), x.fell(1, 1, 0, 2), -1, 6);
        x.spent(0, 100, 1, 0);
        Tests.due(Edge.about("top"), x.top(), 5);
        Tests.due(Edge.about("bottom"), x.bottom(), 1);
        Tests.fraction(x, Edge.about("fell()"), x.fell(0, -1, 0, 2), -30, 1);
        Tests.fraction(x, Edge.about("share()"), x.share(0, 100, 1, 0), 240, 13);
    }

    private static void signsOfFractions() {
        Edge.sentence("answers 1 if it is above 0, 0 if it is 0, -1 if it is below (STATUS tells that from NONE)");
        for (int more = -1; more <= 1; more++) {
            PennyBooks x = new PennyBooks();
            x.edition(0);
            for (int i = 0; i < 2; i++) {
                x.family(0, 0);
                Tests.went(x, i, 9, 10, "tea");
                Tests.went(x, i, 10, 10 + i, "tea");
            }
            x.loss(0, 10);
            x.reading(1, 11 + more, 0);
            Tests.fraction(x, Edge.about("by " + more), x.fell(0, -1, 0, 1), more, 1);
            Tests.due(x, Edge.about("NONE"), x.fell(0, -1, 0, 2), -1, 6);
        }
    }

    private static void atMost512Calls() {
        Edge.sentence("An object is used for at most 512 calls");
        PennyBooks x = new PennyBooks();
        x.tray(0, 3, 60);
        for (int i = 1; i <= 510; i++) {
            x.write(0, i % 60, i);
        }
        Tests.due(Edge.about("the 512th answers as the others"), x.read(0, 30), 510);
    }
}
