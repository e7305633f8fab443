import java.io.IOException;
import java.nio.file.Files;
import java.nio.file.Path;
import java.util.List;

/** The example of README.md, line by line: it compiles, and answers what is written behind it. */
public final class ReadmeTest {
    private static final Path README = Path.of("README.md");
    private static final Path SOURCE = Path.of("src/test/java/ReadmeTest.java");

    public static void main(String[] args) throws IOException {
        example();
        everyLineStandsHere();
        everyCallIsNamed();
        Tests.end();
    }

    private static void example() {
        PennyBooks books = new PennyBooks();
        int family = books.family(0, 1);                        // 0: the first one, of class 0, in land 1
        books.words(word("tea"), word("black"), 0);             // the words of the next line
        int tea = books.line(family, 5, 2, 21, false, 1, 10);   // 0: in week 5, at shop 2, 21 pence went, hand 1, day 10
        due(family, 0, tea, 0);

        int edition = read(books, "if word tea then kind 1 units pence / 7;");
        int kind = books.kind(tea, edition, 0);                 // 1
        int units = books.kind(tea, edition, 1);                // 3
        due(edition, 0, kind, 1, units, 3);

        books.told(family, 5, 12);                              // what its keeper summed up
        int out = books.out(family, 5);                         // -9
        int fewest = books.slips(family, 5, 0);                 // 1
        int slip = books.slip(tea);                             // 3: the last two figures were exchanged
        due(out, -9, fewest, 1, slip, 3);

        books.reading(tea, 28, 20);                             // read anew on day 20
        int now = books.pence(tea);                             // 28
        books.asof(19);
        int then = books.pence(tea);                            // 21
        due(now, 28, then, 21);

        books.member(family, -1040, 0, 519);                    // of 20 years in week 0: a whole mouth
        books.member(family, 0, 0, 519);                        // born in week 0: 30 hundredths
        int sign = books.share(family, 5, 1, edition);          // 1: the fraction is above 0
        long top = books.top();                                 // 210
        long bottom = books.bottom();                           // 13
        due(sign, 1, top, 210, bottom, 13);

        int none = books.price(1, 0, edition, 0);               // -1: PennyBooks.NONE
        int why = books.status();                               // 7: shut, as fewer than three families have such lines
        due(none, PennyBooks.NONE, why, 7);
    }

    /** The letters of a word as a number, 5 bits a letter. */
    static long word(String letters) {
        long word = 0;
        for (int i = 0; i < letters.length(); i++) {
            word = word << 5 | letters.charAt(i) - 'a' + 1;
        }
        return word;
    }

    /** Feeds a text, twenty bytes a call, and makes an edition of it. */
    static int read(PennyBooks books, String text) {
        int[] ints = new int[5];
        for (int at = 0; at < text.length(); at += 20) {
            for (int i = 0; i < 20; i++) {
                int sign = at + i < text.length() ? text.charAt(at + i) : ' ';
                ints[i / 4] = ints[i / 4] << 8 | sign;
            }
            books.feed(ints[0], ints[1], ints[2], ints[3], ints[4]);
        }
        return books.edition(text.length());
    }

    /** Answers, each with the one due behind it. */
    private static void due(long... pairs) {
        for (int i = 0; i + 1 < pairs.length; i += 2) {
            Tests.due("README, the answer " + i / 2 + " of a part", pairs[i], pairs[i + 1]);
        }
    }

    private static void everyLineStandsHere() throws IOException {
        List<String> source = Files.readAllLines(SOURCE).stream().map(String::strip).toList();
        boolean inside = false;
        int at = 0;
        int many = 0;
        for (String line : Files.readAllLines(README)) {
            if (line.startsWith("```")) {
                inside = line.equals("```java");
            } else if (inside && !line.isBlank()) {
                int here = source.subList(at, source.size()).indexOf(line.strip());
                Tests.due("README's line stands in ReadmeTest, in its order: " + line, here >= 0, true);
                at += here + 1;
                many++;
            }
        }
        Tests.due("README has an example", many > 20, true);
    }

    private static void everyCallIsNamed() throws IOException {
        String text = Files.readString(README);
        for (java.lang.reflect.Method m : PennyBooks.class.getDeclaredMethods()) {
            if (java.lang.reflect.Modifier.isPublic(m.getModifiers())) {
                Tests.due("README names " + m.getName() + "()", text.contains("`" + m.getName() + "("), true);
            }
        }
        for (int status = 0; status <= 9; status++) {
            Tests.due("README tells STATUS " + status, text.contains("| " + status + " |"), true);
        }
    }
}
