/** Promises 15 to 19. */
public final class EditionTest {
    public static void main(String[] args) {
        tape();
        editionStatus();
        faults();
        faultOrder();
        limits();
        reports();
        tests();
        sums();
        cuts();
        kindStatus();
        moved();
        Tests.end();
    }

    private static void tape() {
        PennyBooks x = new PennyBooks();
        for (int i = 1; i <= 30; i++) {
            Tests.due("feed", x.feed(0, 0, 0, 0, 0), i * 20);
        }
        Tests.due("a 31st feed", x.feed(0, 0, 0, 0, 0), -1);
        Tests.due(x, "more than the tape has", x.edition(601), -1, 1);
        Tests.due(x, "all blank but bytes of 0", x.edition(600), -1, 9);
        Tests.due("from empty again", x.feed(0x69662031, 0x3d317468, 0x656e6b69, 0x6e64333b, 0x20202020), 20);
        Tests.due(x, "thenkind is one word", x.edition(20), -1, 9);
        x.feed(0x69662031, 0x3d317468, 0x656e206b, 0x696e6433, 0x3b202020);
        Tests.due(x, "the highest byte of each int first", x.edition(20), 0, 0);
        x.feed(0x69662031, 0x3d317468, 0x656e206b, 0x696e6433, 0x3b202020);
        x.feed(-1, 0, 0, 0, 0);
        Tests.due(x, "the first 15 bytes", x.edition(15), -1, 9);
        Tests.due("the end is the text's length", x.fault(1), 15);
        Tests.feed(x, "if came then kind 1;");
        Tests.due(x, "a word cut by n", x.edition(6), -1, 9);
        Tests.due("is another word", x.fault(1), 3);
        Tests.feed(x, "if came then kind 12;");
        Tests.due(x, "a number cut by n", x.edition(19), -1, 9);
        Tests.due("ends where the text ends", x.fault(1), 19);
        Tests.due("the tape is empty", x.feed(0, 0, 0, 0, 0), 20);
        Tests.due(x, "n below 0", x.edition(-1), -1, 1);
        Tests.due(x, "n above", x.edition(21), -1, 1);
        Tests.due("the tape stays", x.feed(0, 0, 0, 0, 0), 40);
        Tests.due(x, "no bytes", x.edition(0), 1, 0);
        Tests.due("the tape is empty then, too", x.feed(0, 0, 0, 0, 0), 20);
    }

    private static void editionStatus() {
        PennyBooks x = new PennyBooks();
        for (int i = 0; i < 5; i++) {
            Tests.due(x, "edition", Tests.edition(x, "if came then kind 1;"), i, 0);
        }
        Tests.feed(x, "if");
        Tests.due(x, "1 ahead of 4", x.edition(21), -1, 1);
        Tests.due(x, "4 ahead of 9", x.edition(2), -1, 4);
        Tests.due("the tape stays", x.feed(0, 0, 0, 0, 0), 40);
        Tests.due("fault() tells of the fifth", x.fault(2), 1);
        Tests.due(x, "the fifth", x.moved(4, 0), 0, 0);
        Tests.due(x, "no sixth", x.moved(5, 0), -1, 1);
    }

    private static void fault(String text, int kind, int place) {
        PennyBooks x = new PennyBooks();
        Tests.due(x, text, Tests.edition(x, text), kind == 0 ? 0 : -1, kind == 0 ? 0 : 9);
        Tests.due(text + ": fault", x.fault(0), kind);
        Tests.due(text + ": place", x.fault(1), place);
    }

    private static void good(String text, int rules) {
        fault(text, 0, -1);
        PennyBooks x = new PennyBooks();
        Tests.edition(x, text);
        Tests.due(text + ": rules", x.fault(2), rules);
    }

    private static void faults() {
        good("", 0);
        good(" \n ", 0);
        good("if came then kind 1;", 1);
        good("if 1<2then kind 3units 4;if 1>2 then kind(1);", 2);
        good("\nif\nnot\nword\nunits\nthen\nkind\n00012\n;\n", 1);
        good("if word word and word not and word abcdefgh then kind 1;", 1);
        good("if ((((((1))))))=1 then kind 1;", 1);
        good("if not pence+1*(week-year)/shop>0 or came and not came then kind 1 units 2;", 1);
        fault("if came\tthen kind 1;", 1, 7);
        fault("if came\rthen kind 1;", 1, 7);
        fault("If came then kind 1;", 1, 0);
        fault("if came then kind 1; " + (char) 0, 1, 21);
        fault("if came then kind 1; " + (char) 233, 1, 21);
        fault("if came then kind 1; " + (char) 255, 1, 21);
        fault("if came then kind 1,", 1, 19);
        fault("if came then kind 123456;", 1, 18);
        fault("if came then kind 000001;", 1, 18);
        fault("if cameTHEN kind 1;", 1, 7);
        fault("then", 2, 0);
        fault("if then", 2, 3);
        fault("if came came", 2, 8);
        fault("if came then 1", 2, 13);
        fault("if came then kind;", 2, 17);
        fault("if came then kind 1 1", 2, 20);
        fault("if came then kind 1 units;", 2, 25);
        fault("if came then kind 1 units 2 units", 2, 28);
        fault("if came then kind 1;;", 2, 20);
        fault("if came then kind 1 if", 2, 20);
        fault("if (came) then", 2, 4);
        fault("if (1=1) then", 2, 5);
        fault("if 1=1=1 then", 2, 6);
        fault("if 1<=1 then", 2, 5);
        fault("if -1=1 then", 2, 3);
        fault("if 1=1) then", 2, 6);
        fault("if (1=", 2, 5);
        fault("if () then", 2, 4);
        fault("if 1+ then", 2, 6);
        fault("if 1 then", 2, 5);
        fault("if 1=2 and then", 2, 11);
        fault("if pences=1 then", 2, 3);
        fault("if not not came", 2, 7);
        fault("if word ; then", 2, 8);
        fault("if word 12 then", 2, 8);
        fault("if came then kind came", 2, 18);
        fault("if abcdefghi", 2, 3);
        fault("if came then kind (1;", 2, 20);
        fault("if came then kind 1 ", 2, 20);
        fault("if", 2, 2);
        fault("if word", 2, 7);
        fault("if  ", 2, 4);
        fault("if word abcdefghi then kind 1;", 3, 8);
        fault("if word aaaaaaaaaaaaaaaaaaaaaaaaaaaaaaaaif then", 3, 8);
    }

    private static void faultOrder() {
        fault("if word came # came", 1, 13);
        fault("if word abcdefghi #", 3, 8);
        fault("if came came #", 2, 8);
        fault("if 1 123456 #", 1, 5);
        fault("123456", 1, 0);
        fault("if word 123456", 1, 8);
        fault("if came(", 2, 7);
        fault("if 1((((((((1", 2, 4);
    }

    private static void limits() {
        StringBuilder thirty = new StringBuilder();
        for (int i = 0; i < 30; i++) {
            thirty.append("if 1=1then kind 1;");
        }
        good(thirty.toString(), 30);
        good(thirty + "  \n", 30);
        fault(thirty + " if", 4, 541);
        fault(thirty + " ifs", 2, 541);
        fault(thirty + " 1", 2, 541);
        good("if ((((((1))))))+((((((2))))))=3 then kind ((((((1))))));", 1);
        fault("if (((((((1", 5, 9);
        fault("if ((((((1+(2", 5, 11);
        fault("if ((((((1)))))*((2", 2, 19);
        fault("if ((((((1)))))*((2)))=1 then kind 1 units 1*(1+(2*(3+(4*(5+(6*(7))))))", 5, 63);
        StringBuilder full = new StringBuilder("if 1");
        while (full.length() < 580) {
            full.append("+1");
        }
        full.append("=1then kind 1;");
        while (full.length() < 600) {
            full.append(' ');
        }
        good(full.toString(), 1);
    }

    private static void reports() {
        PennyBooks x = new PennyBooks();
        for (int what = -1; what < 4; what++) {
            Tests.due("ahead of any", x.fault(what), -1);
        }
        x.edition(1);
        Tests.due("a call with 1 tells nothing", x.fault(0), -1);
        Tests.edition(x, "if came then kind 1; if");
        Tests.due("fault", x.fault(0), 2);
        Tests.due("place", x.fault(1), 23);
        Tests.due("rules with a fault", x.fault(2), 0);
        Tests.due("what 3", x.fault(3), -1);
        Tests.due("what -1", x.fault(-1), -1);
        x.edition(1);
        Tests.due("stays", x.fault(1), 23);
        Tests.edition(x, "if came then kind 1;if came then kind 1;");
        Tests.due("no fault", x.fault(0), 0);
        Tests.due("no place", x.fault(1), -1);
        Tests.due("two rules", x.fault(2), 2);
    }

    /** KIND 1 if the TEST holds for a LINE "tea milk" that went: week 105, shop 7, 60 pence. */
    private static void holds(String test, boolean want) {
        PennyBooks x = new PennyBooks();
        x.family(0, 0);
        x.words(Tests.word("tea"), Tests.word("milk"), 0);
        x.line(0, 105, 7, 60, false, 0, 0);
        int e = Tests.edition(x, "if " + test + " then kind 1;");
        Tests.due(x, test, x.kind(0, e, 0), want ? 1 : 0, 0);
    }

    private static void tests() {
        holds("word tea", true);
        holds("word milk", true);
        holds("word te", false);
        holds("word teas", false);
        holds("not word tea", false);
        holds("not word zoo", true);
        holds("word zooaz", false);
        holds("not word beer", true);
        holds("came", false);
        holds("not came", true);
        holds("week = 105", true);
        holds("year = 2", true);
        holds("shop = 7", true);
        holds("pence = 60", true);
        holds("pence > 60", false);
        holds("pence > 59", true);
        holds("pence < 60", false);
        holds("pence < 61", true);
        holds("not pence < 60", true);
        holds("word tea or word tea and word beer", true);
        holds("word beer and word tea or word tea", true);
        holds("word tea or came and came", true);
        holds("came and came or came", false);
        holds("came or came or word milk", true);
        holds("word tea and word milk and came", false);
        holds("not came and not word beer or came", true);
        holds("not word tea or not came and came", false);
    }

    private static void sum(String sum, int want) {
        holds(sum + " = " + want, true);
        holds(want + " = " + sum, true);
        holds(sum + " = " + (want + 1), false);
    }

    private static void sums() {
        sum("1+2*3", 7);
        sum("(1+2)*3", 9);
        sum("10-3-2", 5);
        sum("10-(3-2)", 9);
        sum("100/10/5", 2);
        sum("100/(10/5)", 50);
        sum("7/2*2", 6);
        sum("7*2/4", 3);
        sum("1+10/3-2*2", 0);
        sum("5/0", 0);
        sum("5/(3-3)+1", 1);
        sum("0-(0-7)/2", 3);
        holds("0-7/2 = 0-3", true);
        holds("(0-7)/2 = 0-3", true);
        holds("0-1 < 0", true);
        sum("pence/shop+week*year", 8 + 210);
        String big = "65536*65536";
        holds(big + "*" + big + " = 0", true);
        holds("32768*65536*" + big + " < 0", true);
        holds("32768*65536*" + big + " - 1 > 0", true);
        holds("32768*65536*" + big + "/(0-1) < 0", true);
        sum("((((((99998))))))", 99998);
        holds("99999 > 99998", true);
        sum("00007", 7);
    }

    private static void cuts() {
        PennyBooks x = new PennyBooks();
        x.family(0, 0);
        x.words(1, 0, 0);
        x.line(0, 0, 0, 50, false, 0, 1);
        x.reading(0, 15, 2);
        int e = Tests.edition(x, "if pence > 40 then kind 0-pence units 0-1; if pence = 15 then kind pence units 1000;"
            + " if pence = 16 then kind pence units 1001; if pence < 3 then kind 3;");
        Tests.due(x, "15 stays", x.kind(0, e, 0), 15, 0);
        Tests.due(x, "1000 stay", x.kind(0, e, 1), 1000, 0);
        Tests.due(x, "rule 1", x.kind(0, e, 2), 1, 0);
        x.asof(1);
        Tests.due(x, "0 at least", x.kind(0, e, 0), 0, 0);
        Tests.due(x, "1 at least", x.kind(0, e, 1), 1, 0);
        Tests.due(x, "rule 0", x.kind(0, e, 2), 0, 0);
        x.asof(9999);
        x.reading(0, 16, 3);
        Tests.due(x, "15 at most", x.kind(0, e, 0), 15, 0);
        Tests.due(x, "1000 at most", x.kind(0, e, 1), 1000, 0);
        x.reading(0, 2, 4);
        Tests.due(x, "without units", x.kind(0, e, 1), 1, 0);
        Tests.due(x, "rule 3", x.kind(0, e, 2), 3, 0);
        x.reading(0, 17, 5);
        Tests.due(x, "no rule: kind", x.kind(0, e, 0), 0, 0);
        Tests.due(x, "no rule: units", x.kind(0, e, 1), 1, 0);
        Tests.due(x, "no rule", x.kind(0, e, 2), -1, 6);
    }

    private static void kindStatus() {
        PennyBooks x = new PennyBooks();
        x.family(0, 0);
        x.words(1, 0, 0);
        x.line(0, 0, 0, 50, false, 0, 5);
        int e = Tests.edition(x, "if 1=1 then kind 4 units 6;");
        Tests.due(x, "line 1", x.kind(1, e, 0), -1, 1);
        Tests.due(x, "line -1", x.kind(-1, e, 0), -1, 1);
        Tests.due(x, "edition 1", x.kind(0, 1, 0), -1, 1);
        Tests.due(x, "edition -1", x.kind(0, -1, 0), -1, 1);
        Tests.due(x, "what 3", x.kind(0, e, 3), -1, 1);
        Tests.due(x, "what -1", x.kind(0, e, -1), -1, 1);
        Tests.due(x, "kind", x.kind(0, e, 0), 4, 0);
        Tests.due(x, "units", x.kind(0, e, 1), 6, 0);
        x.asof(4);
        Tests.due(x, "not known", x.kind(0, e, 0), -1, 6);
        Tests.due(x, "1 ahead of 6", x.kind(0, e, 3), -1, 1);
    }

    private static void moved() {
        PennyBooks x = new PennyBooks();
        x.family(0, 0);
        x.family(0, 0);
        int a = Tests.edition(x, "if pence > 10 then kind 1; if came then kind 2;");
        int b = Tests.edition(x, "if pence > 20 then kind 1; if came then kind 2 units 3;");
        for (int i = 0; i < 6; i++) {
            x.words(1, 0, 0);
            x.line(i % 2, i, 0, 5 * i + 1, i > 3, 0, i);
        }
        // Pence 1 and 6 are kind 0 by both; 11 and 16 are 1 and 0; 21 and 26 are 1 by both.
        Tests.due(x, "two", x.moved(a, b), 2, 0);
        Tests.due(x, "either way", x.moved(b, a), 2, 0);
        Tests.due(x, "the same", x.moved(a, a), 0, 0);
        x.asof(2);
        Tests.due(x, "as known", x.moved(a, b), 1, 0);
        x.asof(9999);
        x.reading(5, 15, 6);
        Tests.due(x, "that came, too", x.moved(a, b), 3, 0);
        Tests.due(x, "the rule of one line", x.kind(5, a, 2), 0, 0);
        Tests.due(x, "the rule of another", x.kind(1, a, 2), -1, 6);
        x.reading(0, 15, 7);
        Tests.due(x, "the first line, too", x.moved(a, b), 4, 0);
        Tests.due(x, "no edition", x.moved(2, 0), -1, 1);
        Tests.due(x, "no edition", x.moved(0, 2), -1, 1);
        Tests.due(x, "no edition", x.moved(-1, 0), -1, 1);
    }
}
