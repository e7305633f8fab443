/** Promises 15 to 19: each sentence that names a boundary, on both sides of it. */
public final class EditionBoundsTest {
    private static final String SIGNS = ";<>=+-*/()";
    private static final String RULE = "if 1=1then kind 1;";
    /** One TOKEN of each sort, and those that a SUM may begin with. */
    private static final String[] TOKENS = {"if", "then", "kind", "units", "or", "and", "not", "word", "came", "pence",
        "week", "year", "shop", "tea", "7", ";", "<", ">", "=", "+", "-", "*", "/", "(", ")"};
    private static final String SUM = " pence week year shop 7 ( ";

    public static void main(String[] args) {
        tapeOf600();
        highestByteFirst();
        howManyBytes();
        tapeIsEmptyThen();
        atMostFiveEditions();
        editionOrder();
        everyByteAlone();
        everyByteBehindARule();
        blanksBetween();
        asLongAsTheyGo();
        digitsOfANumber();
        lettersOfAName();
        whicheverName();
        theEnd();
        thirtyRules();
        sixBrackets();
        withinSixBrackets();
        firstAlongTheText();
        leastKindOfOneToken();
        whereTokensStand();
        faultAheadOfAny();
        faultOfTheLatest();
        faultWhat();
        Tests.end();
    }

    private static void tapeOf600() {
        Edge.sentence("feed: how many it has; NONE if there would be more than 600");
        PennyBooks x = new PennyBooks();
        for (int i = 1; i <= 30; i++) {
            Tests.due(Edge.about("feed " + i), x.feed(0, 0, 0, 0, 0), 20 * i);
        }
        Tests.due(Edge.about("a 31st"), x.feed(0, 0, 0, 0, 0), -1);
        Tests.due(Edge.about("and still"), x.feed(0, 0, 0, 0, 0), -1);
        Edge.taken(() -> fed(29), Call.of("feed", 1, 2, 3, 4, 5), 600);
        Edge.changesNothing(() -> fed(30), Call.of("feed", 1, 2, 3, 4, 5));
        x = fed(30);
        x.read(0, 0);
        x.feed(1, 2, 3, 4, 5);
        Tests.due(Edge.about("it has no STATUS"), x.status(), 2);
    }

    /** A tape with so many times twenty blanks. */
    private static PennyBooks fed(int times) {
        PennyBooks x = new PennyBooks();
        for (int i = 0; i < times; i++) {
            x.feed(0x20202020, 0x20202020, 0x20202020, 0x20202020, 0x20202020);
        }
        return x;
    }

    private static void highestByteFirst() {
        Edge.sentence("Twenty bytes come behind those on the tape, the highest of each int first");
        // One byte of 1 among blanks: its place is told by the FAULT.
        for (int place = 0; place < 40; place++) {
            PennyBooks x = new PennyBooks();
            int[] ints = new int[10];
            java.util.Arrays.fill(ints, 0x20202020);
            ints[place / 4] = ints[place / 4] & ~(255 << 24 - place % 4 * 8) | 1 << 24 - place % 4 * 8;
            x.feed(ints[0], ints[1], ints[2], ints[3], ints[4]);
            x.feed(ints[5], ints[6], ints[7], ints[8], ints[9]);
            Tests.due(x, Edge.about("ahead of it"), x.edition(40), -1, 9);
            Tests.due(Edge.about("kind"), x.fault(0), 1);
            Tests.due(Edge.about("place"), x.fault(1), place);
        }
    }

    private static void howManyBytes() {
        Edge.sentence("edition (1: n below 0, or more than the tape has)");
        Edge.range(Desks::rich, Call.of("edition", 20), 0, 0, 0, 20, 0);
        Edge.taken(() -> fed(30), Call.of("edition", 600), 0);
        Edge.refused(() -> fed(30), Call.of("edition", 601), 1);
        Edge.taken(() -> fed(29), Call.of("edition", 580), 0);
        Edge.refused(() -> fed(29), Call.of("edition", 581), 1);
        Edge.taken(PennyBooks::new, Call.of("edition", 0), 0);
        Edge.refused(PennyBooks::new, Call.of("edition", 1), 1);
        Edge.sentence("The first n bytes of the tape");
        PennyBooks x = new PennyBooks();
        Tests.feed(x, RULE + "#");
        Tests.due(x, Edge.about("not the next one"), x.edition(RULE.length()), 0, 0);
        Tests.feed(x, RULE + "#");
        Tests.due(x, Edge.about("the next one, too"), x.edition(RULE.length() + 1), -1, 9);
        Tests.due(Edge.about("its place"), x.fault(1), RULE.length());
        Tests.feed(x, RULE);
        Tests.due(x, Edge.about("one less"), x.edition(RULE.length() - 1), -1, 9);
        Tests.due(Edge.about("the end"), x.fault(1), RULE.length() - 1);
        StringBuilder full = new StringBuilder(RULE);
        while (full.length() < 599) {
            full.append('\n');
        }
        text(full + "\n", 0, -1, 1);
        text(full + ";", 2, 599, 0);
        text(full + "#", 1, 599, 0);
    }

    private static void tapeIsEmptyThen() {
        Edge.sentence("the tape (which is empty then)");
        PennyBooks x = fed(3);
        Tests.due(x, Edge.about("0 of 60 bytes"), x.edition(0), 0, 0);
        Tests.due(x, Edge.about("none left"), x.edition(1), -1, 1);
        Tests.due(Edge.about("from the start"), x.feed(0, 0, 0, 0, 0), 20);
        Edge.sentence("9: the tape is empty then, too");
        Tests.due(x, Edge.about("a FAULT"), x.edition(1), -1, 9);
        Tests.due(x, Edge.about("none left"), x.edition(1), -1, 1);
        Tests.due(Edge.about("from the start"), x.feed(0, 0, 0, 0, 0), 20);
    }

    private static void atMostFiveEditions() {
        Edge.sentence("EDITIONS, at most 5, numbered as they come");
        PennyBooks x = new PennyBooks();
        for (int i = 0; i < 5; i++) {
            Tests.due(x, Edge.about("there is no " + i + " yet"), x.moved(i, i), -1, 1);
            Tests.due(x, Edge.about("number " + i), Tests.edition(x, RULE), i, 0);
            Tests.due(x, Edge.about("there is " + i), x.moved(i, i), 0, 0);
            Tests.due(x, Edge.about("one with a FAULT does not count"), Tests.edition(x, "if"), -1, i < 4 ? 9 : 4);
        }
        Tests.due(x, Edge.about("a sixth"), x.edition(0), -1, 4);
        Tests.due(x, Edge.about("there is no sixth"), x.moved(5, 0), -1, 1);
        Edge.refused(Desks::fullOfEditions, Call.of("edition", 20), 4);
        Edge.refused(Desks::fullOfEditions, Call.of("edition", 0), 4);
        Edge.sentence("all five are kept, as long as can be");
        x = new PennyBooks();
        x.family(0, 0);
        Tests.went(x, 0, 5, 300, "tea");
        for (int i = 0; i < 5; i++) {
            StringBuilder text = new StringBuilder("if pence=1");
            while (text.length() < 580) {
                text.append("+1");
            }
            // 1 and 285 more are 286; the last rule is what is left of 600 bytes.
            text.append(" or 1=1then kind ").append(11 + i).append(";");
            Tests.due(x, Edge.about("edition " + i), Tests.edition(x, text.toString()), i, 0);
        }
        for (int i = 0; i < 5; i++) {
            Tests.due(x, Edge.about("kind by " + i), x.kind(0, i, 0), 11 + i, 0);
        }
    }

    private static void editionOrder() {
        Edge.sentence("edition (1; 4; 9)");
        Edge.refused(Desks::fullOfEditions, Call.of("edition", 21), 1);
        Edge.refused(Desks::fullOfEditions, Call.of("edition", -1), 1);
        // Its first 19 bytes have a FAULT.
        Edge.refused(Desks::fullOfEditions, Call.of("edition", 19), 4);
        PennyBooks x = Desks.rich();
        Tests.due(x, Edge.about("19 bytes where there is room"), x.edition(19), -1, 9);
    }

    /** The TEXT by a new desk: its FAULT, place and RULES. */
    private static void text(String text, int fault, int place, int rules) {
        PennyBooks x = new PennyBooks();
        String call = Edge.about(text.length() > 70 ? ".." + text.substring(text.length() - 70) : text);
        Tests.due(x, call, Tests.edition(x, text), fault == 0 ? 0 : -1, fault == 0 ? 0 : 9);
        Tests.due(call + " fault", x.fault(0), fault);
        Tests.due(call + " place", x.fault(1), place);
        Tests.due(call + " rules", x.fault(2), rules);
    }

    private static boolean begins(int sign) {
        return sign >= 'a' && sign <= 'z' || sign >= '0' && sign <= '9' || sign < 128 && SIGNS.indexOf(sign) >= 0;
    }

    private static void everyByteAlone() {
        Edge.sentence("1 no TOKEN begins so: blanks (10, 32), small letters, digits, SIGNS, and no other of 256 bytes");
        for (int sign = 0; sign < 256; sign++) {
            boolean blank = sign == 10 || sign == 32;
            text("" + (char) sign, blank ? 0 : begins(sign) ? 2 : 1, blank ? -1 : 0, 0);
        }
    }

    private static void everyByteBehindARule() {
        Edge.sentence("1 no TOKEN begins so, right behind another TOKEN");
        for (int sign = 0; sign < 256; sign++) {
            boolean blank = sign == 10 || sign == 32;
            text(RULE + (char) sign, blank ? 0 : begins(sign) ? 2 : 1, blank ? -1 : RULE.length(), blank ? 1 : 0);
            // Within a word all but a letter end it; a blank lets the next TOKEN stand.
            boolean letter = sign >= 'a' && sign <= 'z';
            int fault = blank ? 0 : begins(sign) ? 2 : 1;
            text("if came" + (char) sign + "then kind 1;", fault, blank ? -1 : letter ? 3 : 7, blank ? 1 : 0);
        }
    }

    private static void blanksBetween() {
        Edge.sentence("between them blanks (10, 32)");
        text("", 0, -1, 0);
        text(" ", 0, -1, 0);
        text("\n \n", 0, -1, 0);
        text(" \n if \n came \n then \n kind \n 1 \n units \n 2 \n ; \n ", 0, -1, 1);
        text("if 1=1then kind(1)units(2);if word tea then kind 1;", 0, -1, 2);
        text("if 1=1 then kind 1units 2;", 0, -1, 1);
        text("if came then kind 1\tunits 2;", 1, 19, 0);
    }

    private static void asLongAsTheyGo() {
        Edge.sentence("TOKENS, as long as they go");
        text("ifcame then kind 1;", 2, 0, 0);
        text("if camethen kind 1;", 2, 3, 0);
        text("if came thenkind 1;", 2, 8, 0);
        text("if notcame then kind 1;", 2, 3, 0);
        text("if 1 2=12 then kind 1;", 2, 5, 0);
        text("if 12=1 2 then kind 1;", 2, 8, 0);
        text("if wordtea then kind 1;", 2, 3, 0);
        text("if not word nottea then kind 1;", 0, -1, 1);
        text("if 1=1or came then kind 1;", 0, -1, 1);
        text("if 1=1 orcame then kind 1;", 2, 7, 0);
    }

    private static void digitsOfANumber() {
        Edge.sentence("NUMBERS (1 to 5 digits); a NUMBER of 6 digits and more: at its first");
        text("if 1=0 then kind 9;", 0, -1, 1);
        text("if 1=99999 then kind 00000;", 0, -1, 1);
        text("if 1=100000 then kind 1;", 1, 5, 0);
        text("if 1=000000 then kind 1;", 1, 5, 0);
        text("if 1=1000000000000000000000 then kind 1;", 1, 5, 0);
        text("if 1=1 then kind 12345;", 0, -1, 1);
        text("if 1=1 then kind 123456;", 1, 17, 0);
        text("if 1=1 then kind 1 units 99999;", 0, -1, 1);
        text("if 1=1 then kind 1 units 099999;", 1, 25, 0);
        text("123456", 1, 0, 0);
        text("12345", 2, 0, 0);
        text("if came 123456", 1, 8, 0);
        text("if came 12345", 2, 8, 0);
        PennyBooks x = new PennyBooks();
        Tests.feed(x, "if 1=123456");
        Tests.due(x, Edge.about("cut by n to 5 digits"), x.edition(10), -1, 9);
        Tests.due(Edge.about("it is a NUMBER"), x.fault(0), 2);
        Tests.due(Edge.about("then comes the end"), x.fault(1), 10);
    }

    private static void lettersOfAName() {
        Edge.sentence("3 a NAME of 9 letters and more");
        text("if word a then kind 1;", 0, -1, 1);
        text("if word abcdefgh then kind 1;", 0, -1, 1);
        text("if word zzzzzzzz then kind 1;", 0, -1, 1);
        text("if word abcdefghi then kind 1;", 3, 8, 0);
        text("if word aaaaaaaaaaaaaaaaaaaaaaaaaaaaaaaaaaaaaaaa then kind 1;", 3, 8, 0);
        text("if not word abcdefghi then kind 1;", 3, 12, 0);
        text("if came and word abcdefghi", 3, 17, 0);
        text("if came or word abcdefghi", 3, 16, 0);
        text("if word abcdefghi", 3, 8, 0);
        // Elsewhere a long word just can't stand there.
        text("if abcdefghi", 2, 3, 0);
        text("abcdefghi", 2, 0, 0);
        text("if came abcdefghi", 2, 8, 0);
        PennyBooks x = new PennyBooks();
        Tests.feed(x, "if word abcdefghi");
        Tests.due(x, Edge.about("cut by n to 8 letters"), x.edition(16), -1, 9);
        Tests.due(Edge.about("then comes the end"), x.fault(1), 16);
        Edge.sentence("word holds if the LINE has that WORD, of 1 to 8 letters");
        for (String name : new String[] {"a", "z", "abcdefgh", "zzzzzzzz", "if"}) {
            x = new PennyBooks();
            x.family(0, 0);
            Tests.went(x, 0, 0, 1, name);
            int e = Tests.edition(x, "if word " + name + " then kind 1;");
            Tests.due(x, Edge.about(name), x.kind(0, e, 0), 1, 0);
            e = Tests.edition(x, "if word q" + name.substring(1) + " then kind 1;");
            Tests.due(x, Edge.about("unlike in the first letter: " + name), x.kind(0, e, 0), 0, 0);
            e = Tests.edition(x, "if word " + name.substring(1) + "q then kind 1;");
            Tests.due(x, Edge.about("unlike: " + name), x.kind(0, e, 0), 0, 0);
        }
    }

    private static void whicheverName() {
        Edge.sentence("NAME: a WORD of 1 to 8 letters, whichever");
        String[] own = "if then kind units or and not word came pence week year shop".split(" ");
        for (String name : own) {
            text("if word " + name + " then kind 1;", 0, -1, 1);
            text("if not word " + name + " and word " + name + " or came then kind 1;", 0, -1, 1);
            PennyBooks x = new PennyBooks();
            x.family(0, 0);
            Tests.went(x, 0, 0, 1, name);
            int e = Tests.edition(x, "if word " + name + " then kind 1;");
            Tests.due(x, Edge.about("the LINE has it: " + name), x.kind(0, e, 0), 1, 0);
        }
        text("if word 1 then kind 1;", 2, 8, 0);
        text("if word ( then kind 1;", 2, 8, 0);
        text("if word", 2, 7, 0);
    }

    private static void theEnd() {
        Edge.sentence("2 it can't stand there (the end: the text's length)");
        String[] tokens = "if not word tea and pence + 1 * ( week ) > 2 or came then kind 3 units 4 ;".split(" ");
        StringBuilder text = new StringBuilder();
        for (String token : tokens) {
            boolean whole = token.equals(";");
            text.append(token);
            text(text.toString(), whole ? 0 : 2, whole ? -1 : text.length(), whole ? 1 : 0);
            text.append(' ');
            text(text.toString(), whole ? 0 : 2, whole ? -1 : text.length(), whole ? 1 : 0);
        }
        text("if", 2, 2, 0);
        text("if \n ", 2, 5, 0);
        // Blanks and words on the tape behind the text are no part of it.
        for (int n = 2; n <= 5; n++) {
            for (String more : new String[] {"if          came", "if\n\n\n\n\n\n\n\n\n\n\n\n\n\n"}) {
                PennyBooks x = new PennyBooks();
                Tests.feed(x, more);
                Tests.due(x, Edge.about(n + " bytes"), x.edition(n), -1, 9);
                Tests.due(Edge.about("the FAULT of " + n + " bytes"), x.fault(0), 2);
                Tests.due(Edge.about("its place"), x.fault(1), n);
            }
        }
        text(RULE + " if ", 2, RULE.length() + 4, 0);
    }

    private static String rules(int many) {
        StringBuilder rules = new StringBuilder();
        for (int i = 0; i < many; i++) {
            rules.append(RULE);
        }
        return rules.toString();
    }

    private static void thirtyRules() {
        Edge.sentence("4 a 31st RULE (at its if)");
        text(rules(29), 0, -1, 29);
        text(rules(30), 0, -1, 30);
        text(rules(30) + " \n ", 0, -1, 30);
        text(rules(30) + RULE, 4, 30 * RULE.length(), 0);
        text(rules(30) + "  if", 4, 30 * RULE.length() + 2, 0);
        text(rules(29) + "  if", 2, 29 * RULE.length() + 4, 0);
        text(rules(30) + " iff", 2, 30 * RULE.length() + 1, 0);
        text(rules(30) + " then", 2, 30 * RULE.length() + 1, 0);
        text(rules(30) + " #", 1, 30 * RULE.length() + 1, 0);
        text(rules(30) + " 123456 if", 1, 30 * RULE.length() + 1, 0);
        Edge.sentence("the RULE (from 0)");
        PennyBooks x = new PennyBooks();
        x.family(0, 0);
        Tests.went(x, 0, 0, 1, "tea");
        StringBuilder last = new StringBuilder();
        for (int i = 0; i < 29; i++) {
            last.append("if 1=2then kind 1;");
        }
        int e = Tests.edition(x, last + "if 1=1then kind 2 units 3;");
        Tests.due(x, Edge.about("the 30th"), x.kind(0, e, 2), 29, 0);
        Tests.due(x, Edge.about("its KIND"), x.kind(0, e, 0), 2, 0);
        Tests.due(x, Edge.about("its UNITS"), x.kind(0, e, 1), 3, 0);
        e = Tests.edition(x, rules(30));
        Tests.due(x, Edge.about("the first of 30 that hold"), x.kind(0, e, 2), 0, 0);
    }

    private static void sixBrackets() {
        Edge.sentence("5 brackets within six others (at the one that opens)");
        String six = "((((((1))))))";
        String[] ahead = {"if ", "if not ", "if 1=", "if came and ", "if 1=1 then kind ", "if 1=1 then kind 1 units ",
            "if 1+", "if 2*"};
        String[] behind = {"=1 then kind 1;", "=1 then kind 1;", " then kind 1;", "=1 then kind 1;", ";", ";",
            "=1 then kind 1;", "=1 then kind 1;"};
        for (int i = 0; i < ahead.length; i++) {
            int at = ahead[i].length();
            text(ahead[i] + six + behind[i], 0, -1, 1);
            text(ahead[i] + "(" + six + ")" + behind[i], 5, at + 6, 0);
            text(ahead[i] + six + "+" + six + "*" + six + behind[i], 0, -1, 1);
            text(ahead[i] + "((((((1)+(2)))))+(3))" + behind[i], 0, -1, 1);
            text(ahead[i] + "((((((1+(2" + behind[i], 5, at + 8, 0);
            text(ahead[i] + "((((((1)))))+(((((((2", 5, at + 18, 0);
        }
    }

    /** Within six brackets all that can't stand there is 2, as within five; only one more that opens is 5. */
    private static void withinSixBrackets() {
        Edge.sentence("5 brackets within six others: no other TOKEN");
        for (String ahead : new String[] {"if ", "if 7 < ", "if came then kind ", "if came then kind 7 units "}) {
            for (String token : TOKENS) {
                boolean stands = SUM.contains(" " + token + " ") && !token.equals("(");
                String five = ahead + "( ( ( ( ( ";
                String six = five + "( ";
                int behind = five.length() + token.length() + 1;
                boolean opens = token.equals("(");
                text(five + token + " #", stands || opens ? 1 : 2, stands || opens ? behind : five.length(), 0);
                text(six + token + " #", stands ? 1 : opens ? 5 : 2, stands ? behind + 2 : six.length(), 0);
            }
        }
    }

    private static void firstAlongTheText() {
        Edge.sentence("FAULTS, the first along the text");
        text("if came came #", 2, 8, 0);
        text("if came # came", 1, 8, 0);
        text("if word abcdefghi # came came", 3, 8, 0);
        text("if # word abcdefghi", 1, 3, 0);
        text("if (((((((1 #", 5, 9, 0);
        text("if ((((((# (", 1, 9, 0);
        text("if 1 = = (((((((", 2, 7, 0);
        text(rules(30) + "if #", 4, 540, 0);
        text(rules(29) + "if ; if", 2, 525, 0);
        text("if came then kind 1; if came then kind 1 1; #", 2, 41, 0);
    }

    private static void leastKindOfOneToken() {
        Edge.sentence("of one TOKEN the least kind");
        text("if came #", 1, 8, 0);
        text("if came 1234567", 1, 8, 0);
        text("#", 1, 0, 0);
        // Brackets that can't stand there, though six others are open.
        text("if ((((((1(2", 2, 10, 0);
        text("if ((((((1)(2", 2, 11, 0);
        text("if ((((((pence(2", 2, 14, 0);
        // An if that can't stand there, though thirty RULES stand.
        text(rules(29) + "if 1=1then kind 1 if", 2, 540, 0);
        // A word of nine letters that is no NAME.
        text("if came then kind abcdefghi", 2, 18, 0);
    }

    /** Each TOKEN in turn behind each start of a RULE: those that the grammar has there, and no others. */
    private static void whereTokensStand() {
        String sum = SUM;
        String sign = " + - * / ";
        String[][] starts = {
            {"", " if "},
            {"if", " not word came" + sum},
            {"if not", " word came" + sum},
            {"if came", " then or and "},
            {"if word tea", " then or and "},
            {"if not came", " then or and "},
            {"if came and", " not word came" + sum},
            {"if came or", " not word came" + sum},
            {"if 7", " < > =" + sign},
            {"if pence", " < > =" + sign},
            {"if 7 +", sum}, {"if 7 -", sum}, {"if 7 *", sum}, {"if 7 /", sum}, {"if (", sum}, {"if 7 <", sum},
            {"if 7 >", sum}, {"if 7 =", sum},
            {"if ( 7", " )" + sign},
            {"if ( 7 )", " < > =" + sign},
            {"if 7 = 7", " then or and" + sign},
            {"if 7 = ( 7 )", " then or and" + sign},
            {"if came then", " kind "},
            {"if came then kind", sum},
            {"if came then kind 7", " units ;" + sign},
            {"if came then kind ( 7", " )" + sign},
            {"if came then kind 7 units", sum},
            {"if came then kind 7 units 7", " ;" + sign},
            {"if came then kind 7 ;", " if "},
            {"if came then kind 7 units 7 ;", " if "},
        };
        Edge.sentence("2 it can't stand there");
        for (String[] start : starts) {
            for (String token : TOKENS) {
                PennyBooks x = new PennyBooks();
                String text = start[0] + " " + token;
                boolean stands = start[1].contains(" " + token + " ");
                Tests.edition(x, text + " #");
                Tests.due(Edge.about(text + " fault"), x.fault(0), stands ? 1 : 2);
                Tests.due(Edge.about(text + " place"), x.fault(1), stands ? text.length() + 1 : start[0].length() + 1);
            }
        }
    }

    private static void faultAheadOfAny() {
        Edge.sentence("fault: NONE ahead of any");
        PennyBooks x = new PennyBooks();
        x.edition(1);
        for (int what = -1; what < 4; what++) {
            Tests.due(Edge.about("what " + what), x.fault(what), -1);
        }
        x.edition(0);
        Tests.due(Edge.about("the FAULT behind one"), x.fault(0), 0);
        Tests.due(Edge.about("its place behind one"), x.fault(1), -1);
        Tests.due(Edge.about("RULES behind one"), x.fault(2), 0);
    }

    private static void faultOfTheLatest() {
        Edge.sentence("Of the latest edition() with STATUS 0 or 9");
        PennyBooks x = new PennyBooks();
        Tests.edition(x, RULE + "if");
        report(x, 2, RULE.length() + 2, 0);
        x.edition(1);
        report(x, 2, RULE.length() + 2, 0);
        for (int i = 1; i <= 5; i++) {
            Tests.edition(x, rules(i));
            report(x, 0, -1, i);
        }
        Tests.due(x, Edge.about("with 4"), Tests.edition(x, "#"), -1, 4);
        report(x, 0, -1, 5);
        x.edition(-1);
        report(x, 0, -1, 5);
        x = new PennyBooks();
        Tests.edition(x, rules(3));
        Tests.edition(x, "#");
        report(x, 1, 0, 0);
        x.edition(0);
        report(x, 0, -1, 0);
    }

    private static void report(PennyBooks x, int fault, int place, int rules) {
        Tests.due(Edge.about("the FAULT"), x.fault(0), fault);
        Tests.due(Edge.about("its place"), x.fault(1), place);
        Tests.due(Edge.about("RULES"), x.fault(2), rules);
    }

    private static void faultWhat() {
        Edge.sentence("fault: what 0, 1, 2; NONE for others");
        for (int what : new int[] {-1, 3, Integer.MIN_VALUE, Integer.MAX_VALUE}) {
            Edge.taken(() -> statusZero(Desks.rich()), Call.of("fault", what), -1);
            Edge.changesNothing(Desks::rich, Call.of("fault", what));
        }
        Edge.taken(() -> statusZero(Desks.rich()), Call.of("fault", 0), 2);
        Edge.taken(() -> statusZero(Desks.rich()), Call.of("fault", 1), 8);
        Edge.taken(() -> statusZero(Desks.rich()), Call.of("fault", 2), 0);
        Edge.sentence("fault has no STATUS");
        PennyBooks x = Desks.rich();
        x.read(3, 0);
        x.fault(9);
        x.fault(0);
        Tests.due(Edge.about("that of read()"), x.status(), 2);
    }

    private static PennyBooks statusZero(PennyBooks x) {
        x.asof(Desks.LOOKED_FROM);
        return x;
    }
}
