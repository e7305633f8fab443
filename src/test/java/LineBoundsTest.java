/** Promises 9 to 14: each sentence that names a boundary, on both sides of it. */
public final class LineBoundsTest {
    private static final Call LINE = Call.of("line", 0, 5, 2, 100, false, 1, Desks.LATEST);
    private static final Call READING = Call.of("reading", 0, 100, Desks.LATEST);
    private static final long A = 1;

    public static void main(String[] args) {
        familyNumbers();
        atMostTwelveFamilies();
        lettersOfAWord();
        lengthOfAWord();
        oneToThreeWords();
        wordsToldAtFirst();
        lineNumbers();
        keptAtTheEnds();
        justItsWords();
        atMost200Lines();
        allOf200Lines();
        readingNumbers();
        atMost60Readings();
        daysNeverGoBack();
        daysGoOnTogether();
        knownFromADayOn();
        latestReadingThenKnown();
        asOfNumbers();
        asOfAtFirst();
        penceRefused();
        lineOrder();
        readingOrder();
        Tests.end();
    }

    private static void familyNumbers() {
        Edge.sentence("a CLASS and a LAND (0 to 3 each)");
        Edge.range(Desks::rich, Call.of("family", 1, 1), 0, 0, 3);
        Edge.range(Desks::rich, Call.of("family", 1, 1), 1, 0, 3);
    }

    private static void atMostTwelveFamilies() {
        Edge.sentence("FAMILIES, at most 12, numbered as they come");
        PennyBooks x = new PennyBooks();
        for (int i = 0; i < 12; i++) {
            Tests.due(x, Edge.about("there is no " + i + " yet"), x.gaps(i), -1, 1);
            Tests.due(x, Edge.about("number " + i), x.family(0, 0), i, 0);
            Tests.due(x, Edge.about("there is " + i), x.gaps(i), 0, 0);
        }
        Tests.due(x, Edge.about("a 13th"), x.family(0, 0), -1, 4);
        Tests.due(x, Edge.about("there is no 13th"), x.gaps(12), -1, 1);
        Edge.refused(Desks::fullOfFamilies, Call.of("family", 0, 0), 4);
        Edge.refused(Desks::fullOfFamilies, Call.of("family", 3, 3), 4);
        Edge.sentence("1 is asked ahead of 4");
        Edge.refused(Desks::fullOfFamilies, Call.of("family", 4, 0), 1);
        Edge.refused(Desks::fullOfFamilies, Call.of("family", 0, -1), 1);
    }

    private static void lettersOfAWord() {
        Edge.sentence("as numbers of 5 bits a letter: a 1 to z 26");
        Call[] calls = {Call.of("words", A, 0L, 0L), Call.of("words", A, A, 0L), Call.of("words", A, A, A)};
        for (int at = 0; at < 3; at++) {
            Edge.taken(Desks::rich, calls[at].with(at, 1), 1);
            Edge.taken(Desks::rich, calls[at].with(at, 26), 1);
            Edge.refused(Desks::rich, calls[at].with(at, 27), 1);
            Edge.refused(Desks::rich, calls[at].with(at, 31), 1);
            Edge.refused(Desks::rich, calls[at].with(at, 32), 1);
            Edge.taken(Desks::rich, calls[at].with(at, 33), 1);
            Edge.refused(Desks::rich, calls[at].with(at, -1), 1);
            Edge.refused(Desks::rich, calls[at].with(at, Long.MIN_VALUE), 1);
            Edge.refused(Desks::rich, calls[at].with(at, Long.MAX_VALUE), 1);
        }
        // In each of the eight places of a letter: 0 (but ahead of the first one), 26, 27 and 31.
        long all = Tests.word("mmmmmmmm");
        for (int place = 0; place < 8; place++) {
            long others = all & ~(31L << 5 * place);
            for (long letter : new long[] {0, 26, 27, 31}) {
                boolean want = letter == 26 || letter == 0 && place == 7;
                boolean got = new PennyBooks().words(others | letter << 5 * place, 0, 0);
                Tests.due(Edge.about(letter + " in place " + place), got, want);
            }
        }
    }

    private static void lengthOfAWord() {
        Edge.sentence("WORDS (of 1 to 8 letters)");
        for (int at = 0; at < 3; at++) {
            Call call = at == 0 ? Call.of("words", A, 0L, 0L) : Call.of("words", A, A, at == 1 ? 0L : A);
            Edge.taken(Desks::rich, call.with(at, Tests.word("a")), 1);
            Edge.taken(Desks::rich, call.with(at, Tests.word("aaaaaaaa")), 1);
            Edge.taken(Desks::rich, call.with(at, Tests.word("zzzzzzzz")), 1);
            Edge.refused(Desks::rich, call.with(at, Tests.word("aaaaaaaaa")), 1);
            Edge.refused(Desks::rich, call.with(at, Tests.word("aaaaaaaaaaaa")), 1);
            Edge.refused(Desks::rich, call.with(at, 1L << 60 | Tests.word("aaaaaaaa")), 1);
        }
    }

    private static void oneToThreeWords() {
        Edge.sentence("words (1: the first one 0, or a third one without a second, too)");
        Edge.taken(Desks::rich, Call.of("words", A, 0L, 0L), 1);
        Edge.taken(Desks::rich, Call.of("words", A, A, 0L), 1);
        Edge.taken(Desks::rich, Call.of("words", A, A, A), 1);
        Edge.refused(Desks::rich, Call.of("words", 0L, 0L, 0L), 1);
        Edge.refused(Desks::rich, Call.of("words", 0L, A, 0L), 1);
        Edge.refused(Desks::rich, Call.of("words", 0L, A, A), 1);
        Edge.refused(Desks::rich, Call.of("words", 0L, 0L, A), 1);
        Edge.refused(Desks::rich, Call.of("words", A, 0L, A), 1);
        for (int many = 1; many <= 3; many++) {
            PennyBooks x = new PennyBooks();
            x.family(0, 0);
            x.words(Tests.word("one"), many > 1 ? Tests.word("two") : 0, many > 2 ? Tests.word("three") : 0);
            x.line(0, 0, 0, 1, false, 0, 0);
            int e = Tests.edition(x, "if word three then kind 3; if word two then kind 2; if word one then kind 1;");
            Tests.due(x, Edge.about(many + " words are kept"), x.kind(0, e, 0), many, 0);
        }
    }

    private static void wordsToldAtFirst() {
        Edge.sentence("None are told at first, and behind each LINE");
        Edge.refused(LineBoundsTest::oneFamily, Call.of("line", 0, 0, 0, 1, false, 0, 0), 6);
        PennyBooks x = oneFamily();
        x.words(A, 0, 0);
        Tests.due(x, Edge.about("told"), x.line(0, 0, 0, 1, false, 0, 0), 0, 0);
        Tests.due(x, Edge.about("behind a LINE"), x.line(0, 0, 0, 1, false, 0, 0), -1, 6);
        Tests.due(x, Edge.about("still"), x.line(0, 0, 0, 1, false, 0, 0), -1, 6);
        x.words(A, 0, 0);
        Tests.due(x, Edge.about("told again"), x.line(0, 0, 0, 1, false, 0, 0), 1, 0);
        Edge.refused(LineBoundsTest::oneLine, Call.of("line", 0, 0, 0, 1, false, 0, 0), 6);
        x = oneFamily();
        x.words(A, A, A);
        x.words(26, 0, 0);
        x.line(0, 0, 0, 1, false, 0, 0);
        int e = Tests.edition(x, "if word a then kind 1; if word z then kind 2;");
        Tests.due(x, Edge.about("told anew, none of the others are left"), x.kind(0, e, 0), 2, 0);
    }

    private static PennyBooks oneFamily() {
        PennyBooks x = new PennyBooks();
        x.family(0, 0);
        return x;
    }

    /** One LINE of 100 pence, known from DAY 0. */
    private static PennyBooks oneLine() {
        PennyBooks x = oneFamily();
        Tests.went(x, 0, 5, 100, "tea");
        return x;
    }

    private static void lineNumbers() {
        Edge.sentence("of a FAMILY (no such one: 1)");
        Edge.range(Desks::rich, LINE, 0, 0, 3);
        Edge.sentence("in a WEEK (0 to 519)");
        Edge.range(Desks::rich, LINE, 1, 0, 519);
        Edge.sentence("at a SHOP (0 to 9)");
        Edge.range(Desks::rich, LINE, 2, 0, 9);
        Edge.sentence("PENCE (1 to 20,000)");
        Edge.range(Desks::rich, LINE, 3, 1, 20000);
        Edge.sentence("in a HAND (0 to 7)");
        Edge.range(Desks::rich, LINE, 5, 0, 7);
        Edge.sentence("DAYS are 0 to 9,999");
        Edge.taken(Desks::rich, LINE.with(6, 9999), Desks.LINES);
        Edge.refused(Desks::rich, LINE.with(6, 10000), 1);
        Edge.refused(Desks::rich, LINE.with(6, -1), 1);
        Edge.refused(Desks::rich, LINE.with(6, Integer.MAX_VALUE), 1);
        Edge.refused(Desks::rich, LINE.with(6, Integer.MIN_VALUE), 1);
        PennyBooks x = oneFamily();
        x.words(A, 0, 0);
        Tests.due(x, Edge.about("DAY 0"), x.line(0, 0, 0, 1, false, 0, 0), 0, 0);
    }

    /** What a LINE has at the ends of what it may have is kept as it is. */
    private static void keptAtTheEnds() {
        Edge.sentence("LINES: what they have");
        PennyBooks x = new PennyBooks();
        for (int i = 0; i < 12; i++) {
            x.family(0, 0);
        }
        x.words(A, 0, 0);
        Tests.due(x, Edge.about("the least"), x.line(0, 0, 0, 1, false, 0, 0), 0, 0);
        x.words(A, 0, 0);
        Tests.due(x, Edge.about("the most"), x.line(11, 519, 9, 20000, true, 7, 9999), 1, 0);
        int e = Tests.edition(x, "if week = 0 and shop = 0 and pence = 1 and not came then kind 1;"
            + " if week = 519 and shop = 9 and pence = 20000 and came then kind 2;");
        Tests.due(x, Edge.about("the least"), x.kind(0, e, 0), 1, 0);
        Tests.due(x, Edge.about("the most"), x.kind(1, e, 0), 2, 0);
        Tests.due(x, Edge.about("PENCE"), x.pence(0), 1, 0);
        Tests.due(x, Edge.about("PENCE"), x.pence(1), 20000, 0);
        Tests.due(x, Edge.about("of FAMILY 0"), x.change(0, 2), 0, 0);
        Tests.due(x, Edge.about("of FAMILY 11"), x.change(11, 2), 0, 0);
        Tests.due(x, Edge.about("none of FAMILY 10"), x.change(10, 2), -1, 6);
    }

    /** A LINE has just the WORDS told, in whichever place; lesser and greater ones it has not. */
    private static void justItsWords() {
        Edge.sentence("one to three WORDS; word holds if the LINE has that WORD");
        String[] words = {"b", "g", "m", "s", "y", "bb", "abcdefgh"};
        String[] others = {"a", "c", "f", "h", "l", "n", "r", "t", "x", "z", "ba", "bc", "abcdefgi", "abcdefg"};
        for (int many = 1; many <= 3; many++) {
            for (int first = 0; first < words.length; first++) {
                PennyBooks x = new PennyBooks();
                x.family(0, 0);
                StringBuilder mine = new StringBuilder();
                long[] told = new long[3];
                for (int i = 0; i < many; i++) {
                    String word = words[(first + i * 3) % words.length];
                    told[i] = Tests.word(word);
                    mine.append(i > 0 ? " and " : "").append("word ").append(word);
                }
                x.words(told[0], told[1], told[2]);
                x.line(0, 0, 0, 1, false, 0, 0);
                int e = Tests.edition(x, "if " + mine + " then kind 1;");
                Tests.due(x, Edge.about("it has " + mine), x.kind(0, e, 0), 1, 0);
                e = Tests.edition(x, "if word " + String.join(" or word ", others) + " then kind 1;");
                Tests.due(x, Edge.about("it has no others than " + mine), x.kind(0, e, 0), 0, 0);
            }
        }
    }

    private static void atMost200Lines() {
        Edge.sentence("LINES, at most 200, numbered as they come");
        PennyBooks x = new PennyBooks();
        x.family(0, 0);
        for (int i = 0; i < 200; i++) {
            x.words(A, 0, 0);
            Tests.due(Edge.about("number " + i), x.line(0, i, 0, 1, false, 0, 0), i);
        }
        Tests.due(x, Edge.about("the 200th"), x.pence(199), 1, 0);
        x.words(A, 0, 0);
        Tests.due(x, Edge.about("a 201st"), x.line(0, 0, 0, 1, false, 0, 0), -1, 4);
        Tests.due(x, Edge.about("there is no 201st"), x.pence(200), -1, 1);
        Edge.refused(Desks::fullOfLines, Call.of("line", 0, 0, 0, 1, false, 0, 9), 4);
        Edge.taken(Desks::fullOfLines, Call.of("reading", 199, 5, 9), 1);
        Edge.refused(Desks::fullOfLines, Call.of("reading", 200, 5, 9), 1);
    }

    /** LINE i has i + 1 pence, in WEEK i. */
    private static void allOf200Lines() {
        Edge.sentence("LINES, at most 200: each call goes to the last of them, and not beyond");
        PennyBooks x = Desks.fullOfLines();
        int e = Tests.edition(x, "if pence > 100 then kind 1;");
        x.rules(60, 1);
        x.told(0, 199, 0);
        x.told(0, 0, 2);
        x.loss(0, 174);
        Tests.due(x, Edge.about("kind"), x.kind(199, e, 0), 1, 0);
        Tests.due(x, Edge.about("moved"), x.moved(e, e), 0, 0);
        Tests.due(x, Edge.about("spent on the last"), x.spent(0, 199, 1, e), 200, 0);
        Tests.due(x, Edge.about("spent on the first"), x.spent(0, 0, -1, e), 1, 0);
        Tests.due(x, Edge.about("spent beyond"), x.spent(0, 200, -1, e), 0, 0);
        Tests.due(x, Edge.about("out of the last"), x.out(0, 199), -200, 0);
        Tests.due(x, Edge.about("out of the first"), x.out(0, 0), 1, 0);
        Tests.due(x, Edge.about("slip of the last"), x.slip(199), 1, 0);
        Tests.due(x, Edge.about("slip of the first"), x.slip(0), 2, 0);
        Tests.due(x, Edge.about("ways"), x.ways(99, e), 0, 0);
        Tests.due(x, Edge.about("span"), x.span(99, e, 1, 0), -1, 6);
        Tests.fraction(x, Edge.about("price"), x.price(1, 3, e, 2), 200, 1);
        Tests.due(x, Edge.about("change"), x.change(0, 0), 1, 0);
        Tests.due(x, Edge.about("unlike"), x.change(0, 2), 0, 0);
        Tests.due(x, Edge.about("gaps"), x.gaps(0), 0, 0);
        Tests.due(x, Edge.about("bound"), x.bound(0, 100, 60, 0), -1, 6);
        Tests.due(x, Edge.about("likes"), x.likes(0, 26), 0, 0);
        Tests.due(x, Edge.about("fell"), x.fell(0, -1, e, 26), -1, 6);
        x.asof(8);
        Tests.due(x, Edge.about("none as of 8"), x.pence(199), -1, 6);
        x.asof(9);
        Tests.due(x, Edge.about("all as of 9"), x.pence(199), 200, 0);
    }

    private static void readingNumbers() {
        Edge.sentence("READINGS of a LINE (no such one: 1)");
        Edge.range(Desks::rich, READING, 0, 0, Desks.LINES - 1);
        Edge.sentence("other PENCE (1 to 20,000)");
        Edge.range(Desks::rich, READING, 1, 1, 20000);
        Edge.sentence("DAYS are 0 to 9,999");
        Edge.taken(Desks::rich, READING.with(2, 9999), 1);
        Edge.refused(Desks::rich, READING.with(2, 10000), 1);
        Edge.refused(Desks::rich, READING.with(2, -1), 1);
        Edge.refused(Desks::rich, READING.with(2, Integer.MAX_VALUE), 1);
        Edge.refused(Desks::rich, READING.with(2, Integer.MIN_VALUE), 1);
        PennyBooks x = oneLine();
        Tests.due(x, Edge.about("DAY 0, 1 penny"), x.reading(0, 1, 0), 0);
        Tests.due(x, Edge.about("1 penny"), x.pence(0), 1, 0);
        x.reading(0, 20000, 0);
        Tests.due(x, Edge.about("20,000"), x.pence(0), 20000, 0);
    }

    private static void atMost60Readings() {
        Edge.sentence("READINGS, at most 60");
        PennyBooks x = oneLine();
        for (int i = 1; i <= 60; i++) {
            Tests.due(x, Edge.about("the " + i + "th"), x.reading(0, i, 3), 0);
            Tests.due(x, Edge.about("the " + i + "th"), x.pence(0), i, 0);
        }
        Tests.due(x, Edge.about("a 61st"), x.reading(0, 500, 3), 4);
        Tests.due(x, Edge.about("a 61st"), x.pence(0), 60, 0);
        Edge.refused(Desks::fullOfReadings, READING, 4);
        Edge.taken(Desks::fullOfReadings, LINE, Desks.LINES);
    }

    private static void daysNeverGoBack() {
        Edge.sentence("KNOWN from a DAY on (these never go back)");
        Edge.taken(Desks::rich, LINE.with(6, Desks.LATEST), Desks.LINES);
        Edge.refused(Desks::rich, LINE.with(6, Desks.LATEST - 1), 5);
        Edge.refused(Desks::rich, LINE.with(6, 0), 5);
        Edge.taken(Desks::rich, READING.with(2, Desks.LATEST), 1);
        Edge.refused(Desks::rich, READING.with(2, Desks.LATEST - 1), 5);
        Edge.refused(Desks::rich, READING.with(2, 0), 5);
        PennyBooks x = oneLine();
        x.reading(0, 7, 9999);
        Tests.due(x, Edge.about("the last DAY"), x.reading(0, 8, 9999), 0);
        Tests.due(x, Edge.about("9,998 is gone"), x.reading(0, 9, 9998), 5);
    }

    private static void daysGoOnTogether() {
        Edge.sentence("these never go back, both together");
        PennyBooks x = oneFamily();
        x.words(A, 0, 0);
        x.line(0, 0, 0, 1, false, 0, 10);
        Tests.due(x, Edge.about("a READING ahead of a LINE's DAY"), x.reading(0, 2, 9), 5);
        Tests.due(x, Edge.about("on its DAY"), x.reading(0, 2, 10), 0);
        x.reading(0, 2, 20);
        x.words(A, 0, 0);
        Tests.due(x, Edge.about("a LINE ahead of a READING's DAY"), x.line(0, 0, 0, 1, false, 0, 19), -1, 5);
        Tests.due(x, Edge.about("on its DAY"), x.line(0, 0, 0, 1, false, 0, 20), 1, 0);
        x.asof(0);
        Tests.due(x, Edge.about("AS OF takes no DAY back"), x.reading(0, 2, 19), 5);
    }

    private static void knownFromADayOn() {
        Edge.sentence("LINES then KNOWN");
        for (int day : new int[] {1, 500, 9999}) {
            PennyBooks x = oneFamily();
            x.words(A, 0, 0);
            x.line(0, 0, 0, 9, false, 0, day);
            x.asof(day - 1);
            Tests.due(x, Edge.about("as of " + (day - 1)), x.pence(0), -1, 6);
            x.asof(day);
            Tests.due(x, Edge.about("as of " + day), x.pence(0), 9, 0);
        }
        PennyBooks x = oneLine();
        x.asof(0);
        Tests.due(x, Edge.about("as of 0, from 0"), x.pence(0), 100, 0);
    }

    private static void latestReadingThenKnown() {
        Edge.sentence("the PENCE of each by its latest READING then KNOWN, as written without any");
        PennyBooks x = oneLine();
        x.reading(0, 200, 10);
        x.reading(0, 300, 20);
        x.reading(0, 400, 20);
        int[] days = {0, 9, 10, 19, 20, 9999};
        int[] pence = {100, 100, 200, 200, 400, 400};
        for (int i = 0; i < days.length; i++) {
            x.asof(days[i]);
            Tests.due(x, Edge.about("as of " + days[i]), x.pence(0), pence[i], 0);
        }
        x.asof(9);
        x.reading(0, 500, 20);
        Tests.due(x, Edge.about("one more, later than AS OF"), x.pence(0), 100, 0);
        x.asof(20);
        Tests.due(x, Edge.about("the latest of one DAY"), x.pence(0), 500, 0);
        x.words(A, 0, 0);
        x.line(0, 0, 0, 7, false, 0, 21);
        Tests.due(x, Edge.about("a LINE later than AS OF"), x.pence(1), -1, 6);
        x.asof(21);
        Tests.due(x, Edge.about("it has no READING"), x.pence(1), 7, 0);
    }

    private static void asOfNumbers() {
        Edge.sentence("asof: DAYS are 0 to 9,999");
        Edge.range(Desks::rich, Call.of("asof", 30), 0, 0, 9999);
    }

    private static void asOfAtFirst() {
        Edge.sentence("AS OF a DAY (9,999 at first)");
        PennyBooks x = oneFamily();
        x.words(A, 0, 0);
        x.line(0, 0, 0, 9, false, 0, 9999);
        Tests.due(x, Edge.about("known from 9,999"), x.pence(0), 9, 0);
        x.reading(0, 8, 9999);
        Tests.due(x, Edge.about("read on 9,999"), x.pence(0), 8, 0);
    }

    private static void penceRefused() {
        Edge.sentence("pence (1, 6)");
        Edge.range(Desks::rich, Call.of("pence", 0), 0, 0, 0, Desks.LINES - 1, 6);
        Edge.taken(Desks::rich, Call.of("pence", 14), 7);
        Edge.refused(Desks::rich, Call.of("pence", 15), 6);
        Edge.refused(PennyBooks::new, Call.of("pence", 0), 1);
        Edge.taken(Desks::fullOfLines, Call.of("pence", 199), 200);
        Edge.refused(Desks::fullOfLines, Call.of("pence", 200), 1);
    }

    private static void lineOrder() {
        Edge.sentence("line (1; 4; 5; 6: no WORDS told)");
        // Full, on a DAY that is gone, and then without WORDS.
        Call gone = Call.of("line", 0, 0, 0, 1, false, 0, 8);
        Edge.refused(Desks::fullOfLines, gone.with(1, 520), 1);
        Edge.refused(Desks::fullOfLines, gone, 4);
        Edge.refused(LineBoundsTest::fullWithoutWords, gone, 4);
        Edge.refused(LineBoundsTest::fullWithoutWords, gone.with(6, 9), 4);
        Edge.refused(LineBoundsTest::withoutWords, gone.with(3, 0), 1);
        Edge.refused(LineBoundsTest::withoutWords, gone, 5);
        Edge.refused(LineBoundsTest::withoutWords, gone.with(6, 9), 6);
        Edge.refused(LineBoundsTest::withoutWords, gone.with(6, 10000), 1);
    }

    private static PennyBooks withoutWords() {
        PennyBooks x = oneFamily();
        x.words(A, 0, 0);
        x.line(0, 0, 0, 1, false, 0, 9);
        return x;
    }

    private static PennyBooks fullWithoutWords() {
        PennyBooks x = oneFamily();
        for (int i = 0; i < 200; i++) {
            x.words(A, 0, 0);
            x.line(0, i, 0, 1, false, 0, 9);
        }
        return x;
    }

    private static void readingOrder() {
        Edge.sentence("reading (1; 4; 5)");
        Call gone = READING.with(2, Desks.LATEST - 1);
        Edge.refused(Desks::fullOfReadings, gone.with(1, 0), 1);
        Edge.refused(Desks::fullOfReadings, gone.with(0, Desks.LINES), 1);
        Edge.refused(Desks::fullOfReadings, gone, 4);
        Edge.refused(Desks::rich, gone, 5);
        Edge.refused(Desks::rich, gone.with(1, 20001), 1);
        // A LINE that is not KNOWN (AS OF) may be read: its list of refusals has no 6.
        Edge.taken(Desks::rich, READING.with(0, 15), 1);
    }
}
