import java.util.Random;

/**
 * Random scenes made so that what random calls seldom meet comes about: LOSSES with many LIKE ones over many WEEKS,
 * SLIPS that were really made, many THINGS, eight WEIGHTS, full TEXTS. The class and PlainBooks are asked the same.
 */
public final class SceneTest {
    private static final int SCENES = 8;
    private static final int NONE = PennyBooks.NONE;

    private final Random random;
    private final Twin twin = new Twin();
    private int lines = 0;

    private SceneTest(long seed) {
        random = new Random(seed);
    }

    public static void main(String[] args) {
        int runs = args.length > 0 ? Integer.parseInt(args[0]) : 160;
        long from = args.length > 1 ? Long.parseLong(args[1]) : 1;
        long asked = 0;
        int bad = 0;
        for (long seed = from; seed < from + runs && bad < 5; seed++) {
            SceneTest one = new SceneTest(seed);
            one.play((int) (seed % SCENES));
            asked += one.twin.calls();
            bad += one.twin.isWrong() ? 1 : 0;
        }
        System.out.println(asked + " calls compared, " + bad + " scenes wrong");
        if (bad != 0) {
            System.exit(1);
        }
    }

    private void play(int scene) {
        switch (scene) {
            case 0 -> losses();
            case 1 -> slips();
            case 2 -> sundries();
            case 3 -> weights();
            case 4 -> hands();
            case 5 -> prices();
            case 6 -> texts();
            default -> mouths();
        }
    }

    private int upTo(int most) {
        return random.nextInt(most + 1);
    }

    private int between(int least, int most) {
        return least + random.nextInt(most - least + 1);
    }

    private void line(int family, int week, int shop, int pence, boolean came, int hand) {
        twin.call("words", Tests.word(RandomTexts.NAMES[upTo(5)]), 0L, 0L);
        twin.call("line", family, week, shop, pence, came, hand, lines / 10);
        lines++;
    }

    /** FAMILIES that mostly have a LINE in each WEEK around the LOSSES. */
    private void losses() {
        int families = between(2, 5);
        int n = between(1, Math.min(26, 90 / families));
        int first = random.nextBoolean() ? upTo(520 - 2 * n) : upTo(1) * (520 - 2 * n);
        twin.edition("if shop > 0 then kind shop;", 0);
        for (int family = 0; family < families; family++) {
            twin.call("family", upTo(3) / 3, upTo(3));
        }
        int lacking = upTo(40 * n);
        for (int family = 0; family < families; family++) {
            for (int week = first; week < first + 2 * n; week++) {
                lacking--;
                line(family, week, upTo(2), between(1, 100), lacking == 0, 0);
            }
        }
        for (int i = 0; i < 5; i++) {
            boolean middle = random.nextInt(3) > 0;
            twin.call("loss", random.nextInt(families), middle ? first + n : Math.min(519, first + upTo(2 * n)));
            twin.call("asof", random.nextInt(3) > 0 ? 9999 : upTo(lines / 10));
            for (int asked = 0; asked <= i; asked++) {
                int over = Math.max(1, Math.min(26, n + upTo(2) - 1));
                twin.call("likes", asked, over);
                twin.call("fell", asked, upTo(3) - 1, 0, over);
                twin.call("likes", asked, between(1, n));
                twin.call("fell", asked, NONE, 0, between(1, n));
            }
        }
        twin.call("gaps", 0);
        twin.call("gaps", 1);
    }

    /** PENCE whose figures come again, and sums with some SLIPS in them. */
    private int figures() {
        int pence = 0;
        int many = between(1, 5);
        for (int i = 0; i < many; i++) {
            pence = pence * 10 + upTo(3) * upTo(2);
        }
        return Math.max(1, Math.min(20000, pence));
    }

    private int exchanged(int pence) {
        char[] f = Integer.toString(pence).toCharArray();
        int at = random.nextInt(f.length);
        char c = f[at];
        f[at] = f[0];
        f[0] = c;
        return f.length < 2 ? pence : Integer.parseInt(new String(f));
    }

    private void slips() {
        twin.call("family", 0, 0);
        twin.edition("", 0);
        int many = upTo(10);
        int[] pence = new int[many];
        for (int i = 0; i < many; i++) {
            pence[i] = figures();
            line(0, 7, 0, pence[i], false, 0);
            if (random.nextInt(9) == 0) {
                line(0, 7 + upTo(1), 0, figures(), true, 0);
            }
        }
        for (int round = 0; round < 12; round++) {
            int sum = 12 * (upTo(2) - 1) * upTo(2);
            for (int p : pence) {
                int slip = random.nextInt(3 + many);
                sum += slip == 0 ? 0 : slip == 1 ? 2 * p : slip == 2 ? exchanged(p) : p;
            }
            twin.call("told", 0, 7, Math.max(0, sum));
            twin.call("out", 0, 7);
            for (int what = 0; what < 3; what++) {
                twin.call("slips", 0, 7, what);
            }
            for (int i = 0; i < lines; i++) {
                twin.call("slip", i);
            }
        }
        twin.call("reading", 0, figures(), 9999);
        twin.call("slips", 0, 7, 1);
    }

    /** LINES of up to fifteen KINDS around some of KIND 0. */
    private void sundries() {
        int kinds = between(1, 15);
        int dearest = random.nextBoolean() ? 12 : 300;
        twin.call("family", 0, 0);
        twin.call("family", 0, 0);
        twin.edition("if word misc or word beer then kind 0; if word if then kind pence units shop * 5; if word tea then kind 16 - shop;"
            + " if pence > 0 then kind pence - pence / " + kinds + " * " + kinds + " + 1 units shop;", 0);
        twin.call("rules", random.nextBoolean() ? between(1, 60) : between(1, 4), 3);
        int middle = random.nextInt(4) == 0 ? upTo(1) * 519 : upTo(519);
        int around = random.nextBoolean() ? 2 : 70;
        for (int i = 0; i < 60; i++) {
            int week = Math.max(0, Math.min(519, middle + between(-around, around)));
            boolean big = random.nextInt(6) == 0;
            line(upTo(9) / 9, week, upTo(9), between(1, big ? 2010 : dearest), random.nextInt(20) == 0, 0);
        }
        for (int i = 0; i < 80; i++) {
            int line = random.nextInt(lines);
            if (twin.call("ways", line, 0) >= 0) {
                for (int kind = 1; kind <= 15; kind++) {
                    twin.call("span", line, 0, kind, upTo(1));
                }
            }
            if (random.nextInt(9) == 0) {
                twin.call("asof", random.nextBoolean() ? 9999 : upTo(lines / 10));
                twin.call("rules", between(1, 60), 3);
            }
        }
    }

    private void weights() {
        int[] classes = new int[8];
        int[] lands = new int[8];
        int kinds = upTo(3);
        for (int i = 0; i < 8; i++) {
            classes[i] = upTo(kinds);
            lands[i] = upTo(3);
            twin.call("family", classes[i], lands[i]);
        }
        twin.call("tray", 0, between(0, 3), 8);
        for (int round = 0; round < 3; round++) {
            int most = between(1, 4);
            int n = random.nextInt(3) == 0 ? 8 : between(5, 7);
            int[] margins = new int[8];
            for (int i = 0; i < n; i++) {
                int weight = upTo(most);
                margins[classes[i]] += weight;
                margins[4 + lands[i]] += weight;
            }
            for (int i = 0; i < 8; i++) {
                int off = random.nextInt(3) == 0 ? between(-3, 3) : 0;
                twin.call("write", 0, i, (long) Math.max(0, margins[i] + off));
            }
            twin.call("weights", n, most, 0);
            for (int i = 0; i < 9; i++) {
                twin.call("weight", i);
            }
        }
    }

    /** A FAMILY whose HAND changes here and there, in few or many WEEKS. */
    private void hands() {
        int weeks = between(1, random.nextBoolean() ? 5 : 40);
        int first = random.nextBoolean() ? upTo(1) * (520 - weeks) : upTo(520 - weeks);
        int where = upTo(weeks);
        twin.call("family", 0, 0);
        for (int i = 0; i < 60; i++) {
            // Every third WEEK stays empty, so that there are GAPS.
            int week = random.nextInt(weeks) * 2 / 3 * 3 / 2;
            int hand = random.nextInt(4) == 0 ? upTo(7) : week < where ? 5 : 2;
            line(0, first + week, 0, between(1, 500), random.nextInt(5) == 0, hand);
            if (i % 4 == 0) {
                for (int what = 0; what < 3; what++) {
                    twin.call("change", 0, what);
                }
                twin.call("gaps", 0);
                twin.call("bound", 0, first + random.nextInt(weeks), between(1, 5), upTo(1));
            }
        }
        for (int week = first; week < first + weeks; week++) {
            twin.call("bound", 0, week, between(1, 60), upTo(1));
        }
        twin.call("asof", upTo(lines / 10));
        twin.call("change", 0, 0);
        twin.call("gaps", 0);
    }

    private void prices() {
        int families = between(1, 12);
        for (int i = 0; i < families; i++) {
            twin.call("family", 0, 0);
        }
        twin.edition("if shop > 0 then kind shop - 1 units " + (random.nextBoolean() ? "week * 7" : "shop") + ";", 0);
        int year = upTo(9);
        int shops = upTo(9);
        for (int i = 0; i < 80; i++) {
            int week = Math.max(0, Math.min(519, 52 * year + between(-2, 54)));
            int pence = random.nextBoolean() ? between(1, 8) * 6 : between(1, 20000);
            line(random.nextInt(families), week, upTo(shops), pence, random.nextInt(9) == 0, 0);
        }
        for (int i = 0; i < 60; i++) {
            twin.call("rules", 10, between(1, 1 + upTo(11)));
            twin.call("asof", random.nextBoolean() ? 9999 : upTo(lines / 10));
            twin.call("price", upTo(shops), Math.min(9, year + upTo(4) / 4), 0, upTo(2));
        }
    }

    /** A SUM of about so many signs, whose numbers go round on. */
    private String longSum(int length) {
        StringBuilder sum = new StringBuilder("99999");
        int open = 0;
        while (sum.length() < length) {
            sum.append("*/+-*".charAt(upTo(4)));
            if (open < 6 && random.nextInt(5) == 0) {
                sum.append('(');
                open++;
            }
            int what = upTo(5);
            sum.append(what < 4 ? new String[] {"pence", "week", "year", "shop"}[what] : "" + upTo(99999));
            if (open > 0 && random.nextInt(4) == 0) {
                sum.append(')');
                open--;
            }
        }
        return sum.append(")".repeat(open)).toString();
    }

    private void texts() {
        twin.call("family", 0, 0);
        for (int i = 0; i < 20; i++) {
            line(0, upTo(519), upTo(9), between(1, 20000), random.nextBoolean(), 0);
        }
        for (int i = 0; i < 12; i++) {
            String test = "if " + longSum(upTo(120)) + "<>=".charAt(upTo(2)) + longSum(upTo(120));
            String text = test + (random.nextBoolean() ? " and not came" : " or word pie") + " then kind "
                + longSum(upTo(80)) + "/" + between(1, 99999) + "/99999 units " + longSum(upTo(80)) + ";";
            int more = 600 - text.length();
            String filled = more < 40 ? text : text + "if 1=1then kind " + longSum(more - 60) + ";";
            twin.edition(filled.length() > 600 ? filled.substring(0, between(560, 600)) : filled, 0);
        }
        for (int edition = 0; edition < 5; edition++) {
            for (int line = 0; line < lines; line++) {
                twin.call("kind", line, edition, upTo(2));
            }
            twin.call("moved", edition, upTo(4));
        }
    }

    /** MEMBERS whose AGE comes to another step of the SCALE in the WEEKS asked. */
    private void mouths() {
        twin.call("family", 0, 0);
        twin.call("family", 1, 1);
        twin.edition("if word pie then kind 1;", 0);
        int week = between(10, 509);
        for (int i = 0; i < 42; i++) {
            int from = Math.max(0, week - upTo(6));
            int to = Math.min(519, week + upTo(6));
            int birthday = week - 260 * upTo(4) - between(-3, 3);
            twin.call("member", upTo(1), Math.max(-5200, Math.min(519, birthday)), from, to);
            line(upTo(1), week + between(-5, 5), 0, between(1, 20000), false, 0);
        }
        for (int i = 0; i < 60; i++) {
            int asked = Math.min(519, week + between(-8, 8));
            twin.call("mouths", upTo(1), asked);
            twin.call("share", upTo(1), asked, upTo(2) - 1, 0);
            if (random.nextInt(9) == 0) {
                twin.call("scale", upTo(100), upTo(100), upTo(1) * 100, upTo(100));
            }
        }
    }
}
