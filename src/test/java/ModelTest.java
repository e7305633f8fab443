import java.util.Random;

/** Runs of random calls on the class and on PlainBooks: answers, STATUS and FRACTION must be the same. */
public final class ModelTest {
    private static final String[] NAMES = {"tea", "pie", "beer", "misc", "if", "aaaaaaaa"};

    /** First EDITIONS by which LINES are of several KINDS, so that there are THINGS and PRICES. */
    private static final String[] START = {
        "",
        "if shop > 1 then kind shop - 1;",
        "if shop > 3 then kind shop units week - week / 4 * 4 + 1;",
        "if word tea then kind 1 units pence / 7; if word pie then kind 2; if word beer then kind 3 units 2;",
        "if pence > 9 then kind pence units shop + 1;",
    };

    private final Random random;
    private final Twin twin = new Twin();
    /** How close WEEKS lie: runs with few WEEKS meet themselves more. */
    private final int weeks;
    private final int base;
    private final int dearest;
    private final int classes;
    private int families = 0;
    private int lines = 0;
    private int editions = 0;
    private int losses = 0;
    private int day = 0;

    private ModelTest(long seed) {
        random = new Random(seed);
        weeks = 1 + random.nextInt(random.nextBoolean() ? 4 : 30);
        base = random.nextInt(4) == 0 ? 520 - weeks : random.nextInt(520 - weeks);
        dearest = random.nextBoolean() ? 60 : random.nextInt(20000) + 1;
        classes = 1 + random.nextInt(4);
    }

    public static void main(String[] args) {
        int runs = args.length > 0 ? Integer.parseInt(args[0]) : 400;
        long from = args.length > 1 ? Long.parseLong(args[1]) : 1;
        int asked = 0;
        int bad = 0;
        for (long seed = from; seed < from + runs && bad < 5; seed++) {
            ModelTest one = new ModelTest(seed);
            one.play();
            asked += one.twin.calls();
            bad += one.twin.isWrong() ? 1 : 0;
        }
        System.out.println(asked + " calls compared, " + bad + " runs wrong");
        if (bad != 0) {
            System.exit(1);
        }
    }

    private void play() {
        build();
        for (int i = 0; i < 300 && !twin.isWrong(); i++) {
            step();
        }
    }

    private void build() {
        int many = 1 + random.nextInt(random.nextBoolean() ? 3 : 12);
        for (int i = 0; i < many; i++) {
            families = Math.max(families, 1 + (int) call("family", odd(random.nextInt(classes)), pick(0, 3)));
        }
        families = Math.max(families, 1 + (int) call("family", 0, 0));
        boolean full = random.nextInt(8) == 0;
        int first = full ? 230 : random.nextInt(90);
        for (int i = 0; i < first && !twin.isWrong(); i++) {
            line();
        }
        for (int i = 0; i < 60 && full && !twin.isWrong(); i++) {
            reading();
            call("told", aFamily(), aWeek(), random.nextInt(dearest));
            call("loss", aFamily(), aWeek());
            member();
        }
        feedText(START[random.nextInt(START.length)], 0);
        text();
    }

    private void step() {
        switch (random.nextInt(40)) {
            case 0, 1, 2, 3 -> line();
            case 4 -> reading();
            case 5 -> call("asof", odd(random.nextInt(3) == 0 ? 9999 : random.nextInt(day + 2)));
            case 6 -> text();
            case 7 -> call("pence", aLine());
            case 8 -> call("kind", aLine(), anEdition(), pick(0, 2));
            case 9 -> call("moved", anEdition(), anEdition());
            case 10 -> call("spent", aFamily(), aWeek(), aKind(), anEdition());
            case 11, 12 -> tell();
            case 13 -> call("out", aFamily(), aWeek());
            case 14 -> call("slips", aFamily(), aWeek(), pick(0, 2));
            case 15 -> call("slip", aLine());
            case 16 -> call("rules", pick(1, random.nextBoolean() ? 60 : 5), pick(1, random.nextInt(12) + 1));
            case 17, 18 -> call("ways", aLine(), firstEdition());
            case 19, 20 -> spans();
            case 21 -> member();
            case 22 -> call("scale", pick(0, 100), pick(0, 100), pick(0, 100), pick(0, 100));
            case 23 -> call("mouths", aFamily(), aWeek());
            case 24 -> call("share", aFamily(), aWeek(), aKind(), anEdition());
            case 25, 26 -> call("price", aKind(), odd(base / 52 + random.nextInt(2)), firstEdition(), pick(0, 2));
            case 27 -> call("change", aFamily(), pick(0, 2));
            case 28 -> weights();
            case 29 -> call("weight", pick(0, 8));
            case 30 -> call("gaps", aFamily());
            case 31, 32 -> call("bound", aFamily(), aWeek(), pick(1, random.nextBoolean() ? 60 : 3), pick(0, 1));
            case 33 -> losses = Math.max(losses, 1 + (int) call("loss", aFamily(), aWeek()));
            case 34, 35 -> call("fell", aLoss(), aKind(), anEdition(), pick(1, random.nextInt(random.nextBoolean() ? 2 : 26) + 1));
            case 36 -> call("likes", aLoss(), pick(1, random.nextBoolean() ? 2 : 26));
            case 37 -> call("tray", pick(0, 3), pick(0, 3), pick(0, random.nextInt(60)));
            case 38 -> call("write", pick(0, 3), pick(0, 60), random.nextLong() >> random.nextInt(64));
            default -> trayCalls();
        }
    }

    private void trayCalls() {
        call("read", pick(0, 3), pick(0, 60));
        int from = random.nextInt(4);
        int to = random.nextInt(3) == 0 ? random.nextInt(4) : from;
        call("pour", odd(from), pick(0, 9), odd(to), pick(0, 9), pick(0, 12));
    }

    private void line() {
        int seconds = random.nextInt(3);
        call("words", aWord(), seconds > 0 ? aWord() : 0L, seconds > 1 ? aWord() : 0L);
        if (random.nextInt(3) == 0) {
            day = Math.min(9990, day + random.nextInt(3));
        }
        int known = random.nextInt(30) == 0 ? day - 1 : day;
        lines = Math.max(lines, 1 + (int) call("line", aFamily(), aWeek(), pick(0, random.nextInt(10)), pence(),
            random.nextInt(6) == 0, pick(0, random.nextInt(8)), odd(known)));
    }

    private void reading() {
        day = Math.min(9990, day + random.nextInt(2));
        call("reading", aLine(), pence(), odd(day));
    }

    private void text() {
        feedText(new RandomTexts(random).next(), random.nextInt(12) == 0 ? random.nextInt(21) : 0);
    }

    private void feedText(String text, int more) {
        editions = Math.max(editions, 1 + (int) twin.edition(text, more));
    }

    /** Most sums told are near what was spent, so that SLIPS have something to explain. */
    private void tell() {
        int family = random.nextInt(families);
        int week = base + random.nextInt(weeks);
        int spent = editions == 0 ? 0 : (int) Math.max(0, call("spent", family, week, -1, 0));
        int near = spent + random.nextInt(5) * 9 + random.nextInt(5) * 12 - 36;
        int told = random.nextInt(3) == 0 ? random.nextInt(2 * dearest) : near;
        call("told", family, week, told);
        call("out", family, week);
        for (int what = 0; what < 3; what++) {
            call("slips", family, week, what);
        }
        call("slip", aLine());
    }

    private void spans() {
        int edition = firstEdition();
        int line = aLine();
        for (int i = 0; i < 8 && call("ways", line, edition) <= 0; i++) {
            line = aLine();
        }
        for (int kind = 1; kind < 8; kind++) {
            call("span", line, edition, odd(random.nextInt(3) == 0 ? kind + 8 : kind), pick(0, 1));
        }
    }

    private void member() {
        int from = aWeek();
        int born = from - random.nextInt(1200) + 5;
        call("member", aFamily(), odd(born), from, random.nextInt(4) == 0 ? aWeek() : 519);
    }

    private void weights() {
        int tray = random.nextInt(4);
        if (random.nextInt(4) > 0) {
            call("tray", tray, pick(0, 3), random.nextInt(20) == 0 ? 7 : 8 + random.nextInt(3));
            int most = random.nextInt(random.nextBoolean() ? 10 : 101) + 1;
            for (int i = 0; i < 8; i++) {
                call("write", tray, i, (long) odd(random.nextInt(most)));
            }
        }
        int n = 1 + random.nextInt(Math.min(families, random.nextInt(10) == 0 ? 8 : 5));
        call("weights", odd(n), pick(1, 4), odd(tray));
        for (int i = -1; i < 9; i++) {
            call("weight", i);
        }
    }

    private int pick(int least, int most) {
        return odd(least + random.nextInt(most - least + 1));
    }

    /** Now and then a number that may not be. */
    private int odd(int number) {
        int[] odds = {-1, -2, 0, 1, 3, 4, 16, 61, 101, 520, 10000, 20001, Integer.MIN_VALUE, Integer.MAX_VALUE};
        return random.nextInt(60) == 0 ? odds[random.nextInt(odds.length)] : number;
    }

    private int aFamily() {
        return odd(random.nextInt(Math.max(1, families)));
    }

    private int aLine() {
        return odd(random.nextInt(Math.max(1, lines)));
    }

    private int anEdition() {
        return odd(random.nextInt(Math.max(1, editions)));
    }

    private int firstEdition() {
        return random.nextBoolean() ? 0 : anEdition();
    }

    private int aLoss() {
        return odd(random.nextInt(Math.max(1, losses)));
    }

    private int aWeek() {
        return odd(base + random.nextInt(weeks));
    }

    private int aKind() {
        return random.nextInt(3) == 0 ? -1 : pick(0, random.nextInt(16));
    }

    private int pence() {
        return odd(1 + random.nextInt(dearest));
    }

    private long aWord() {
        long odd = random.nextBoolean() ? random.nextLong() : random.nextInt(2000);
        return random.nextInt(40) == 0 ? odd : Tests.word(NAMES[random.nextInt(NAMES.length)]);
    }

    private long call(String name, Object... args) {
        return twin.call(name, args);
    }
}
