import java.util.Arrays;

/** A desk that reads the household books of families; ../shared/DOC.md says what each call does. */
public final class PennyBooks {
    public static final int NONE = -1;

    private static final int FINE = 0;
    private static final int CANT_BE = 1;
    private static final int MISSING = 2;
    private static final int NO_PLACE = 3;
    private static final int TOO_MANY = 4;
    private static final int DAY_GONE = 5;
    private static final int NONE_SUCH = 6;
    private static final int IS_SHUT = 7;
    private static final int UNLIKE_SORTS = 8;
    private static final int FAULTY = 9;

    private static final int LAST_WEEK = 519;
    private static final int WEEKS_A_YEAR = 52;
    private static final int LAST_DAY = 9999;
    private static final int LAST_KIND = 15;
    private static final int MOST_PENCE = 20000;
    private static final int MOST_LINES = 200;
    private static final int MOST_FAMILIES = 12;
    private static final int MOST_EDITIONS = 5;
    private static final int LONGEST_TEXT = 600;

    private int status;
    private long top;
    private long bottom;
    private final Trays trays;
    private final Ledger ledger;
    private final Reader reader;
    private final Judge judge;
    private final Sums sums;
    private final Sundries sundries;
    private final Mouths mouths;
    private final Prices prices;
    private final Weeks weeks;
    private final Weights weights;
    private final Losses losses;

    public PennyBooks() {
        status = FINE;
        top = 0;
        bottom = 1;
        trays = new Trays();
        ledger = new Ledger();
        reader = new Reader();
        judge = new Judge(ledger);
        sums = new Sums(ledger);
        sundries = new Sundries(ledger, judge);
        mouths = new Mouths();
        prices = new Prices(ledger, judge);
        weeks = new Weeks(ledger);
        weights = new Weights(ledger);
        losses = new Losses(ledger, judge);
    }

    public int status() {
        return status;
    }

    public long top() {
        return top;
    }

    public long bottom() {
        return bottom;
    }

    // ---- TRAYS

    public boolean tray(int tray, int sort, int many) {
        boolean wrong = outside(tray, 0, 3) || outside(sort, 0, 3) || outside(many, 0, Trays.LONGEST);
        status = wrong ? CANT_BE : FINE;
        if (status == FINE) {
            trays.lay(tray, sort, many);
        }
        return status == FINE;
    }

    public boolean write(int tray, int place, long v) {
        status = trays.placeStatus(tray, place);
        if (status == FINE) {
            trays.put(tray, place, v);
        }
        return status == FINE;
    }

    public long read(int tray, int place) {
        status = trays.placeStatus(tray, place);
        return status == FINE ? trays.at(tray, place) : NONE;
    }

    public boolean pour(int from, int place, int to, int at, int many) {
        status = trays.pourStatus(from, place, to, at, many);
        if (status == FINE) {
            trays.move(from, place, to, at, many);
        }
        return status == FINE;
    }

    // ---- FAMILIES and LINES

    public int family(int what, int land) {
        if (outside(what, 0, 3) || outside(land, 0, 3)) {
            status = CANT_BE;
        } else {
            status = ledger.families >= MOST_FAMILIES ? TOO_MANY : FINE;
        }
        return status == FINE ? ledger.addFamily(what, land) : NONE;
    }

    public boolean words(long a, long b, long c) {
        boolean gap = a == 0 || b == 0 && c != 0;
        boolean wrong = gap || !Ledger.wordOrNone(a) || !Ledger.wordOrNone(b) || !Ledger.wordOrNone(c);
        status = wrong ? CANT_BE : FINE;
        if (status == FINE) {
            ledger.tellWords(a, b, c);
        }
        return status == FINE;
    }

    public int line(int family, int week, int shop, int pence, boolean came, int hand, int known) {
        if (noFamilyWeek(family, week) || outside(shop, 0, 9) || outside(hand, 0, 7) || badEntry(pence, known)) {
            status = CANT_BE;
        } else if (ledger.lines >= MOST_LINES) {
            status = TOO_MANY;
        } else if (known < ledger.latestDay) {
            status = DAY_GONE;
        } else {
            status = ledger.wordsTold() ? FINE : NONE_SUCH;
        }
        return status == FINE ? ledger.addLine(family, week, shop, pence, came, hand, known) : NONE;
    }

    public boolean reading(int line, int pence, int known) {
        if (!ledger.hasLine(line) || badEntry(pence, known)) {
            status = CANT_BE;
        } else if (ledger.readings >= Ledger.MOST_READINGS) {
            status = TOO_MANY;
        } else {
            status = known < ledger.latestDay ? DAY_GONE : FINE;
        }
        if (status == FINE) {
            ledger.addReading(line, pence, known);
        }
        return status == FINE;
    }

    public boolean asof(int day) {
        status = outside(day, 0, LAST_DAY) ? CANT_BE : FINE;
        if (status == FINE) {
            ledger.lookFrom(day);
        }
        return status == FINE;
    }

    public int pence(int line) {
        status = ledger.lineStatus(line);
        return status == FINE ? ledger.penceOf[line] : NONE;
    }

    // ---- EDITIONS

    public int feed(int a, int b, int c, int d, int e) {
        return reader.append(a, b, c, d, e);
    }

    public int edition(int n) {
        if (outside(n, 0, reader.filled)) {
            status = CANT_BE;
        } else if (judge.editions >= MOST_EDITIONS) {
            status = TOO_MANY;
        } else {
            status = reader.readText(n) ? FINE : FAULTY;
        }
        return status == FINE ? judge.addEdition(reader.code, reader.size) : NONE;
    }

    public int fault(int what) {
        return reader.report(what);
    }

    public int kind(int line, int edition, int what) {
        if (!ledger.hasLine(line) || !judge.judgeBy(edition) || outside(what, 0, 2)) {
            status = CANT_BE;
        } else if (!ledger.isKnown(line) || what == 2 && judge.ruleOf(line, edition) == NONE) {
            status = NONE_SUCH;
        } else {
            status = FINE;
        }
        if (status != FINE) {
            return NONE;
        }
        if (what == 2) {
            return judge.ruleOf(line, edition);
        }
        return what == 0 ? judge.kindOf(line, edition) : judge.unitsOf(line, edition);
    }

    public int moved(int edition, int other) {
        status = judge.judgeBy(edition) && judge.judgeBy(other) ? FINE : CANT_BE;
        return status == FINE ? judge.unlikeKinds(edition, other) : NONE;
    }

    // ---- sums

    public int spent(int family, int week, int kind, int edition) {
        status = noSpending(family, week, kind, edition) ? CANT_BE : FINE;
        return status == FINE ? judge.spentOn(family, week, kind, edition) : NONE;
    }

    public boolean told(int family, int week, int sum) {
        if (noFamilyWeek(family, week) || outside(sum, 0, Sums.MOST_SUM)) {
            status = CANT_BE;
        } else {
            status = sums.hasRoom(family, week) ? FINE : TOO_MANY;
        }
        if (status == FINE) {
            sums.tell(family, week, sum);
        }
        return status == FINE;
    }

    public int out(int family, int week) {
        if (noFamilyWeek(family, week)) {
            status = CANT_BE;
        } else {
            status = sums.isTold(family, week) ? FINE : NONE_SUCH;
        }
        return status == FINE ? sums.outBy(family, week) : NONE;
    }

    public int slips(int family, int week, int what) {
        if (noFamilyWeek(family, week) || outside(what, 0, 2)) {
            status = CANT_BE;
        } else {
            status = sums.explain(family, week) ? FINE : NONE_SUCH;
        }
        if (status != FINE) {
            return NONE;
        }
        if (what == 2) {
            return sums.carry;
        }
        return what == 0 ? sums.fewest : sums.rivals;
    }

    public int slip(int line) {
        status = ledger.lineStatus(line);
        if (status == FINE && !sums.explainLine(line)) {
            status = NONE_SUCH;
        }
        return status == FINE ? sums.slipOf(line) : NONE;
    }

    public boolean rules(int near, int shut) {
        boolean wrong = outside(near, 1, Sundries.FARTHEST) || outside(shut, 1, MOST_FAMILIES);
        status = wrong ? CANT_BE : FINE;
        if (status == FINE) {
            sundries.near = near;
            prices.shut = shut;
        }
        return status == FINE;
    }

    public long ways(int line, int edition) {
        status = sundriesStatus(line, edition);
        return status == FINE ? sundries.waysOf(line, edition) : NONE;
    }

    public int span(int line, int edition, int kind, int what) {
        boolean wrong = outside(kind, 1, LAST_KIND) || outside(what, 0, 1);
        status = wrong ? CANT_BE : sundriesStatus(line, edition);
        if (status == FINE && !sundries.findSpan(line, edition, kind)) {
            status = NONE_SUCH;
        }
        if (status != FINE) {
            return NONE;
        }
        return what == 0 ? sundries.fewest : sundries.greatest;
    }

    private int sundriesStatus(int line, int edition) {
        if (!ledger.hasLine(line) || !judge.judgeBy(edition)) {
            return CANT_BE;
        }
        return sundries.isSundries(line, edition) ? FINE : NONE_SUCH;
    }

    // ---- MOUTHS and PRICES

    public boolean member(int family, int born, int from, int to) {
        boolean stay = !outside(from, 0, LAST_WEEK) && !outside(to, from, LAST_WEEK) && from >= born;
        if (!ledger.hasFamily(family) || outside(born, Mouths.EARLIEST_BIRTH, LAST_WEEK) || !stay) {
            status = CANT_BE;
        } else {
            status = mouths.members >= Mouths.MOST_MEMBERS ? TOO_MANY : FINE;
        }
        if (status == FINE) {
            mouths.addMember(family, born, from, to);
        }
        return status == FINE;
    }

    public boolean scale(int a, int b, int c, int d) {
        boolean wrong = outside(a, 0, 100) || outside(b, 0, 100) || outside(c, 0, 100) || outside(d, 0, 100);
        status = wrong ? CANT_BE : FINE;
        if (status == FINE) {
            mouths.rescale(a, b, c, d);
        }
        return status == FINE;
    }

    public int mouths(int family, int week) {
        status = noFamilyWeek(family, week) ? CANT_BE : FINE;
        return status == FINE ? mouths.together(family, week) : NONE;
    }

    public int share(int family, int week, int kind, int edition) {
        if (noSpending(family, week, kind, edition)) {
            status = CANT_BE;
        } else {
            status = mouths.together(family, week) > 0 ? FINE : NONE_SUCH;
        }
        if (status != FINE) {
            return NONE;
        }
        return tellFraction(100L * judge.spentOn(family, week, kind, edition), mouths.together(family, week));
    }

    public int price(int kind, int year, int edition, int what) {
        boolean wrong = outside(kind, 0, LAST_KIND) || outside(year, 0, LAST_WEEK / WEEKS_A_YEAR);
        if (wrong || !judge.judgeBy(edition) || outside(what, 0, 2)) {
            status = CANT_BE;
        } else {
            status = prices.gather(kind, year, edition);
        }
        if (status != FINE) {
            return NONE;
        }
        int place = prices.placeOf(what);
        return tellFraction(prices.pence[place], prices.units[place]);
    }

    // ---- HANDS, WEIGHTS, GAPS, LOSSES

    public int change(int family, int what) {
        if (!ledger.hasFamily(family) || outside(what, 0, 2)) {
            status = CANT_BE;
            return NONE;
        }
        int answer = what == 2 ? weeks.unlikeHands(family, 0, LAST_WEEK) : weeks.bestChange(family, what);
        status = answer == NONE ? NONE_SUCH : FINE;
        return answer;
    }

    public int weights(int n, int most, int tray) {
        if (outside(n, 1, Weights.MOST_WEIGHED) || n > ledger.families || outside(most, 1, 4)) {
            status = CANT_BE;
        } else {
            status = trays.placeStatus(tray, Weights.MARGINS - 1);
        }
        if (status == FINE && !weights.takeMargins(trays, tray)) {
            status = CANT_BE;
        }
        return status == FINE ? weights.findNearest(n, most) : NONE;
    }

    public int weight(int family) {
        if (family < 0) {
            status = CANT_BE;
        } else {
            status = family < weights.weighed ? FINE : NONE_SUCH;
        }
        return status == FINE ? weights.nearest[family] : NONE;
    }

    public int gaps(int family) {
        status = ledger.hasFamily(family) ? FINE : CANT_BE;
        return status == FINE ? weeks.countGaps(family) : NONE;
    }

    public int bound(int family, int week, int n, int what) {
        if (noFamilyWeek(family, week) || outside(n, 1, 60) || outside(what, 0, 1)) {
            status = CANT_BE;
        } else {
            status = weeks.findBounds(family, week, n) ? FINE : NONE_SUCH;
        }
        if (status != FINE) {
            return NONE;
        }
        return what == 0 ? weeks.least : weeks.greatest;
    }

    public int loss(int family, int week) {
        if (noFamilyWeek(family, week)) {
            status = CANT_BE;
        } else {
            status = losses.losses >= Losses.MOST_LOSSES ? TOO_MANY : FINE;
        }
        return status == FINE ? losses.addLoss(family, week) : NONE;
    }

    public int fell(int loss, int kind, int edition, int n) {
        boolean wrong = outside(kind, NONE, LAST_KIND) || !judge.judgeBy(edition);
        status = wrong ? CANT_BE : losses.spanStatus(loss, n);
        if (status == FINE && !losses.measure(loss, kind, edition, n)) {
            status = NONE_SUCH;
        }
        return status == FINE ? tellFraction(losses.above, losses.below) : NONE;
    }

    public int likes(int loss, int n) {
        status = losses.spanStatus(loss, n);
        return status == FINE ? losses.countLikes(loss, n) : NONE;
    }

    // ---- what the calls share

    private static boolean outside(int number, int least, int most) {
        return number < least || number > most;
    }

    private static boolean badEntry(int pence, int known) {
        return outside(pence, 1, MOST_PENCE) || outside(known, 0, LAST_DAY);
    }

    private boolean noFamilyWeek(int family, int week) {
        return !ledger.hasFamily(family) || outside(week, 0, LAST_WEEK);
    }

    private boolean noSpending(int family, int week, int kind, int edition) {
        return noFamilyWeek(family, week) || outside(kind, NONE, LAST_KIND) || !judge.judgeBy(edition);
    }

    private int tellFraction(long above, long below) {
        long divisor = Math.max(1, commonDivisor(Math.abs(above), below));
        top = above / divisor;
        bottom = Math.max(1, below / divisor);
        if (above == 0) {
            return 0;
        }
        return above > 0 ? 1 : -1;
    }

    private static long commonDivisor(long a, long b) {
        long larger = a;
        long smaller = b;
        // Euclid's way halves the numbers in two steps, so 128 are enough for any of 64 bits.
        for (int step = 0; step < 128 && smaller != 0; step++) {
            long rest = larger % smaller;
            larger = smaller;
            smaller = rest;
        }
        return larger;
    }

    /** Four rows of numbers in one array, so that laying a TRAY anew makes nothing. */
    private static final class Trays {
        private static final int LONGEST = 60;

        private final long[] cells = new long[4 * LONGEST];
        private final int[] sorts = new int[4];
        private final int[] sizes = {NONE, NONE, NONE, NONE};

        void lay(int tray, int sort, int many) {
            sorts[tray] = sort;
            sizes[tray] = many;
            Arrays.fill(cells, tray * LONGEST, tray * LONGEST + many, 0L);
        }

        int placeStatus(int tray, int place) {
            if (outside(tray, 0, 3)) {
                return CANT_BE;
            }
            if (sizes[tray] == NONE) {
                return MISSING;
            }
            return outside(place, 0, sizes[tray] - 1) ? NO_PLACE : FINE;
        }

        void put(int tray, int place, long v) {
            cells[tray * LONGEST + place] = cut(v, sorts[tray]);
        }

        long at(int tray, int place) {
            return cells[tray * LONGEST + place];
        }

        int pourStatus(int from, int place, int to, int at, int many) {
            if (outside(from, 0, 3) || outside(to, 0, 3) || place < 0 || at < 0 || many < 0) {
                return CANT_BE;
            }
            if (sizes[from] == NONE || sizes[to] == NONE) {
                return MISSING;
            }
            if (sorts[from] != sorts[to]) {
                return UNLIKE_SORTS;
            }
            boolean over = (long) place + many > sizes[from] || (long) at + many > sizes[to];
            return over ? NO_PLACE : FINE;
        }

        void move(int from, int place, int to, int at, int many) {
            System.arraycopy(cells, from * LONGEST + place, cells, to * LONGEST + at, many);
        }

        private static long cut(long v, int sort) {
            switch (sort) {
                case 0:
                    return (byte) v;
                case 1:
                    return (short) v;
                case 2:
                    return (int) v;
                default:
                    return v;
            }
        }
    }

    /** FAMILIES, LINES and READINGS, and what of them was KNOWN by the DAY of AS OF. */
    private static final class Ledger {
        private static final int MOST_READINGS = 60;
        private static final int WORDS_A_LINE = 3;
        private static final int LONGEST_WORD = 8;

        private int families;
        private final int[] classOf = new int[MOST_FAMILIES];
        private final int[] landOf = new int[MOST_FAMILIES];
        private int lines;
        private final int[] familyOf = new int[MOST_LINES];
        private final int[] weekOf = new int[MOST_LINES];
        private final int[] shopOf = new int[MOST_LINES];
        private final int[] handOf = new int[MOST_LINES];
        private final boolean[] came = new boolean[MOST_LINES];
        private final int[] knownFrom = new int[MOST_LINES];
        private final long[] wordsOf = new long[MOST_LINES * WORDS_A_LINE];
        private final int[] written = new int[MOST_LINES];
        // PENCE as of the day looked from, kept so that no call has to go through the READINGS.
        private final int[] penceOf = new int[MOST_LINES];
        private int readings;
        private final int[] readLine = new int[MOST_READINGS];
        private final int[] readPence = new int[MOST_READINGS];
        private final int[] readFrom = new int[MOST_READINGS];
        private final long[] nextWords = new long[WORDS_A_LINE];
        private int latestDay;
        private int lookedFrom = LAST_DAY;

        boolean hasFamily(int family) {
            return family >= 0 && family < families;
        }

        boolean hasLine(int line) {
            return line >= 0 && line < lines;
        }

        boolean isKnown(int line) {
            return knownFrom[line] <= lookedFrom;
        }

        boolean went(int line) {
            return knownFrom[line] <= lookedFrom && !came[line];
        }

        boolean wentFrom(int line, int family) {
            return familyOf[line] == family && went(line);
        }

        boolean wentFrom(int line, int family, int week) {
            return weekOf[line] == week && familyOf[line] == family && went(line);
        }

        int lineStatus(int line) {
            if (!hasLine(line)) {
                return CANT_BE;
            }
            return isKnown(line) ? FINE : NONE_SUCH;
        }

        int addFamily(int what, int land) {
            classOf[families] = what;
            landOf[families] = land;
            families++;
            return families - 1;
        }

        static boolean wordOrNone(long word) {
            long rest = word;
            for (int letter = 0; letter < LONGEST_WORD && rest != 0; letter++) {
                if (outside((int) (rest & 31), 1, 26)) {
                    return false;
                }
                rest >>>= 5;
            }
            return rest == 0;
        }

        void tellWords(long a, long b, long c) {
            nextWords[0] = a;
            nextWords[1] = b;
            nextWords[2] = c;
        }

        boolean wordsTold() {
            return nextWords[0] != 0;
        }

        boolean hasWord(int line, long word) {
            int first = line * WORDS_A_LINE;
            return wordsOf[first] == word || wordsOf[first + 1] == word || wordsOf[first + 2] == word;
        }

        int addLine(int family, int week, int shop, int pence, boolean comes, int hand, int known) {
            int line = lines;
            familyOf[line] = family;
            weekOf[line] = week;
            shopOf[line] = shop;
            handOf[line] = hand;
            came[line] = comes;
            knownFrom[line] = known;
            written[line] = pence;
            penceOf[line] = pence;
            System.arraycopy(nextWords, 0, wordsOf, line * WORDS_A_LINE, WORDS_A_LINE);
            tellWords(0, 0, 0);
            latestDay = known;
            lines++;
            return line;
        }

        void addReading(int line, int pence, int known) {
            readLine[readings] = line;
            readPence[readings] = pence;
            readFrom[readings] = known;
            readings++;
            latestDay = known;
            lookFrom(lookedFrom);
        }

        void lookFrom(int day) {
            lookedFrom = day;
            System.arraycopy(written, 0, penceOf, 0, lines);
            // READINGS stand by their days, so the latest one known is written last.
            for (int i = 0; i < readings; i++) {
                if (readFrom[i] <= day) {
                    penceOf[readLine[i]] = readPence[i];
                }
            }
        }

        int spentOnAll(int family, int week) {
            int sum = 0;
            for (int line = 0; line < lines; line++) {
                if (wentFrom(line, family, week)) {
                    sum += penceOf[line];
                }
            }
            return sum;
        }
    }

    /** The tape, and the reading of a TEXT from it, TOKEN by TOKEN, up to the first FAULT. */
    private static final class Reader {
        private static final int BYTES_FED = 20;
        private static final int MOST_RULES = 30;
        private static final int MOST_DIGITS = 5;
        private static final int MOST_BRACKETS = 6;
        // Within each of seven levels a bracket, a sum and a product may wait, and the TEST's own besides.
        private static final int MOST_WAITING = 32;

        private static final int NO_TOKEN = 1;
        private static final int CANT_STAND = 2;
        private static final int LONG_NAME = 3;
        private static final int RULE_TOO_MANY = 4;
        private static final int TOO_DEEP = 5;

        // if then kind units or and not word came pence week year shop, as numbers of 5 bits a letter.
        private static final long[] KEYWORDS = {294, 663726, 370116, 22488723, 498, 1476, 14836, 769604, 99749,
            16955493, 758955, 824370, 631280};
        // TOKENS: a keyword is its place in that row, a SIGN is its byte, and the others are these.
        private static final int IF = 0;
        private static final int THEN = 1;
        private static final int KIND = 2;
        private static final int UNITS = 3;
        private static final int OR = 4;
        private static final int AND = 5;
        private static final int NOT = 6;
        private static final int WORD = 7;
        private static final int CAME = 8;
        private static final int PENCE = 9;
        private static final int WEEK = 10;
        private static final int YEAR = 11;
        private static final int SHOP = 12;
        private static final int OTHER_WORD = 13;
        private static final int NUMBER = 14;
        private static final int TEXT_END = 15;
        private static final int UNKNOWN = 16;

        private static final int AT_RULE = 0;
        private static final int AT_ONE = 1;
        private static final int BEHIND_NOT = 2;
        private static final int AT_NAME = 3;
        private static final int BEHIND_ONE = 4;
        private static final int BEHIND_THEN = 5;
        private static final int AT_ATOM = 6;
        private static final int BEHIND_ATOM = 7;

        private static final int LEFT_SUM = 0;
        private static final int RIGHT_SUM = 1;
        private static final int KIND_SUM = 2;
        private static final int UNITS_SUM = 3;

        private final byte[] tape = new byte[LONGEST_TEXT];
        private int filled;
        private int length;
        private int token;
        private int start;
        private int end;
        private long value;
        private int state;
        private int sum;
        private int brackets;
        private final int[] waiting = new int[MOST_WAITING];
        private int waits;
        private final long[] code = new long[LONGEST_TEXT];
        private int size;
        private int test;
        private boolean everRead;
        private int fault;
        private int place;
        private int rules;

        int append(int a, int b, int c, int d, int e) {
            if (filled + BYTES_FED > LONGEST_TEXT) {
                return NONE;
            }
            appendFour(a);
            appendFour(b);
            appendFour(c);
            appendFour(d);
            appendFour(e);
            return filled;
        }

        private void appendFour(int four) {
            for (int shift = 24; shift >= 0 && filled < LONGEST_TEXT; shift -= 8) {
                tape[filled] = (byte) (four >> shift);
                filled++;
            }
        }

        int report(int what) {
            if (!everRead || outside(what, 0, 2)) {
                return NONE;
            }
            if (what == 2) {
                return rules;
            }
            return what == 0 ? fault : place;
        }

        boolean readText(int n) {
            length = Math.min(n, LONGEST_TEXT);
            end = 0;
            state = AT_RULE;
            waits = 0;
            size = 0;
            fault = 0;
            place = NONE;
            rules = 0;
            boolean more = true;
            for (int i = 0; i <= LONGEST_TEXT && more; i++) {
                nextToken();
                takeToken();
                more = fault == 0 && token != TEXT_END;
            }
            if (fault != 0) {
                rules = 0;
            }
            everRead = true;
            filled = 0;
            return fault == 0;
        }

        private void nextToken() {
            start = end;
            while (start < length && (tape[start] == 10 || tape[start] == 32)) {
                start++;
            }
            end = start;
            if (start >= length) {
                token = TEXT_END;
            } else if (isLetter(tape[start])) {
                nextWord();
            } else if (isDigit(tape[start])) {
                nextNumber();
            } else {
                token = ";<>=+-*/()".indexOf((char) (tape[start] & 255)) >= 0 ? tape[start] : UNKNOWN;
                end++;
            }
        }

        private void nextWord() {
            value = 0;
            while (end < length && isLetter(tape[end])) {
                value = value << 5 | tape[end] - 'a' + 1;
                end++;
            }
            token = OTHER_WORD;
            for (int i = 0; i < KEYWORDS.length; i++) {
                if (value == KEYWORDS[i] && !isLongWord()) {
                    token = i;
                }
            }
        }

        /** Of a longer WORD the first letters have left the value, so it may look like another one. */
        private boolean isLongWord() {
            return end - start > Ledger.LONGEST_WORD;
        }

        private void nextNumber() {
            value = 0;
            while (end < length && isDigit(tape[end])) {
                value = value * 10 + tape[end] - '0';
                end++;
            }
            token = end - start > MOST_DIGITS ? UNKNOWN : NUMBER;
        }

        private static boolean isLetter(int sign) {
            return sign >= 'a' && sign <= 'z';
        }

        private static boolean isDigit(int sign) {
            return sign >= '0' && sign <= '9';
        }

        private void refuse(int kind) {
            fault = kind;
            place = start;
        }

        private void takeToken() {
            if (token == UNKNOWN) {
                refuse(NO_TOKEN);
                return;
            }
            switch (state) {
                case AT_RULE:
                    takeAtRule();
                    break;
                case AT_ONE:
                case BEHIND_NOT:
                    takeAtOne();
                    break;
                case AT_NAME:
                    takeName();
                    break;
                case BEHIND_ONE:
                    takeBehindOne();
                    break;
                case BEHIND_THEN:
                    takeBehindThen();
                    break;
                case AT_ATOM:
                    takeAtom();
                    break;
                default:
                    takeBehindAtom();
                    break;
            }
        }

        private void takeAtRule() {
            if (token == IF && rules >= MOST_RULES) {
                refuse(RULE_TOO_MANY);
            } else if (token == IF) {
                state = AT_ONE;
            } else if (token != TEXT_END) {
                refuse(CANT_STAND);
            }
        }

        private void takeAtOne() {
            if (token == NOT && state == AT_ONE) {
                hold(Judge.NOT);
                state = BEHIND_NOT;
            } else if (token == WORD) {
                state = AT_NAME;
            } else if (token == CAME) {
                emit(Judge.CAME, 0);
                state = BEHIND_ONE;
            } else {
                openSum(LEFT_SUM);
                takeAtom();
            }
        }

        private void takeName() {
            if (token > OTHER_WORD) {
                refuse(CANT_STAND);
            } else if (isLongWord()) {
                refuse(LONG_NAME);
            } else {
                emit(Judge.HAS_WORD, value);
                state = BEHIND_ONE;
            }
        }

        private void takeBehindOne() {
            if (token == AND || token == OR) {
                int step = token == AND ? Judge.AND : Judge.OR;
                release(Judge.bindingOf(step));
                hold(step);
                state = AT_ONE;
            } else if (token == THEN) {
                release(0);
                test = size;
                emit(Judge.THEN, 0);
                state = BEHIND_THEN;
            } else {
                refuse(CANT_STAND);
            }
        }

        private void takeBehindThen() {
            if (token == KIND) {
                openSum(KIND_SUM);
            } else {
                refuse(CANT_STAND);
            }
        }

        private void openSum(int which) {
            sum = which;
            brackets = 0;
            state = AT_ATOM;
        }

        private void takeAtom() {
            if (token == '(' && brackets >= MOST_BRACKETS) {
                refuse(TOO_DEEP);
            } else if (token == '(') {
                brackets++;
                hold(Judge.BRACKET);
            } else if (atomStep() == NONE) {
                refuse(CANT_STAND);
            } else {
                emit(atomStep(), token == NUMBER ? value : 0);
                state = BEHIND_ATOM;
            }
        }

        private int atomStep() {
            switch (token) {
                case NUMBER:
                    return Judge.NUMBER;
                case PENCE:
                    return Judge.PENCE;
                case WEEK:
                    return Judge.WEEK;
                case YEAR:
                    return Judge.YEAR;
                case SHOP:
                    return Judge.SHOP;
                default:
                    return NONE;
            }
        }

        private void takeBehindAtom() {
            int step = operatorStep();
            if (step != NONE) {
                release(Judge.bindingOf(step));
                hold(step);
                state = AT_ATOM;
            } else if (brackets > 0) {
                closeBracket();
            } else if (sum == LEFT_SUM) {
                takeComparison();
            } else if (sum == RIGHT_SUM) {
                takeBehindOne();
            } else {
                takeBehindResult();
            }
        }

        private int operatorStep() {
            switch (token) {
                case '+':
                    return Judge.ADD;
                case '-':
                    return Judge.TAKE;
                case '*':
                    return Judge.TIMES;
                case '/':
                    return Judge.PARTS;
                default:
                    return NONE;
            }
        }

        private void closeBracket() {
            if (token != ')') {
                refuse(CANT_STAND);
                return;
            }
            release(1);
            waits = Math.max(0, waits - 1);
            brackets--;
        }

        private void takeComparison() {
            int step = comparisonStep();
            if (step == NONE) {
                refuse(CANT_STAND);
                return;
            }
            release(Judge.bindingOf(step));
            hold(step);
            openSum(RIGHT_SUM);
        }

        private int comparisonStep() {
            switch (token) {
                case '<':
                    return Judge.LESS;
                case '>':
                    return Judge.MORE;
                case '=':
                    return Judge.SAME;
                default:
                    return NONE;
            }
        }

        private void takeBehindResult() {
            boolean toUnits = token == UNITS && sum == KIND_SUM;
            if (!toUnits && token != ';') {
                refuse(CANT_STAND);
                return;
            }
            release(0);
            emit(sum == KIND_SUM ? Judge.KIND : Judge.UNITS, 0);
            if (toUnits) {
                openSum(UNITS_SUM);
            } else {
                endRule();
            }
        }

        private void endRule() {
            if (test < LONGEST_TEXT) {
                code[test] = (long) size << Judge.STEP_BITS | Judge.THEN;
            }
            emit(Judge.END, 0);
            rules++;
            state = AT_RULE;
        }

        /** An operator waits until its right side is read. */
        private void hold(int step) {
            if (waits < MOST_WAITING) {
                waiting[waits] = step;
                waits++;
            }
        }

        /** Those that bind no less than what comes now have their right side. */
        private void release(int binding) {
            while (waits > 0 && Judge.bindingOf(waiting[waits - 1]) >= binding) {
                waits--;
                emit(waiting[waits], 0);
            }
        }

        private void emit(int step, long number) {
            // No TOKEN gives more than one step, so the code has room for every text.
            if (size < LONGEST_TEXT) {
                code[size] = number << Judge.STEP_BITS | step;
                size++;
            }
        }
    }

    /** EDITIONS, and what LINES are by them. */
    private static final class Judge {
        private static final int MOST_UNITS = 1000;
        // Seven levels of brackets with two numbers waiting in each, and the TEST's own, are far fewer.
        private static final int DEEPEST = 64;

        // A step of the code is its number in the lowest bits, and above them what goes with it.
        private static final int STEP_BITS = 8;
        private static final int STEP_MASK = 255;
        // The tens of an operator's step tell how tightly it binds.
        private static final int BRACKET = 0;
        private static final int NUMBER = 1;
        private static final int PENCE = 2;
        private static final int WEEK = 3;
        private static final int YEAR = 4;
        private static final int SHOP = 5;
        private static final int HAS_WORD = 6;
        private static final int CAME = 7;
        private static final int OR = 10;
        private static final int AND = 20;
        private static final int NOT = 30;
        private static final int LESS = 40;
        private static final int MORE = 41;
        private static final int SAME = 42;
        private static final int ADD = 50;
        private static final int TAKE = 51;
        private static final int TIMES = 60;
        private static final int PARTS = 61;
        private static final int THEN = 70;
        private static final int KIND = 71;
        private static final int UNITS = 72;
        private static final int END = 73;

        private final Ledger ledger;
        private int editions;
        private final long[] code = new long[MOST_EDITIONS * LONGEST_TEXT];
        private final int[] sizes = new int[MOST_EDITIONS];
        // Of a LINE only its PENCE may change, so a verdict stands while they are these (0: none yet).
        private final int[] judgedAt = new int[MOST_EDITIONS * MOST_LINES];
        private final int[] verdicts = new int[MOST_EDITIONS * MOST_LINES];
        private final long[] stack = new long[DEEPEST];
        private int height;

        Judge(Ledger ledger) {
            this.ledger = ledger;
        }

        static int bindingOf(int step) {
            return step / 10;
        }

        int addEdition(long[] steps, int many) {
            System.arraycopy(steps, 0, code, editions * LONGEST_TEXT, many);
            sizes[editions] = many;
            editions++;
            return editions - 1;
        }

        /** Answers whether there is such an EDITION; if so, all LINES are judged by it then. */
        boolean judgeBy(int edition) {
            if (outside(edition, 0, editions - 1)) {
                return false;
            }
            for (int line = 0; line < ledger.lines; line++) {
                int slot = edition * MOST_LINES + line;
                if (judgedAt[slot] != ledger.penceOf[line]) {
                    judgedAt[slot] = ledger.penceOf[line];
                    verdicts[slot] = judgeAnew(line, edition);
                }
            }
            return true;
        }

        int kindOf(int line, int edition) {
            return verdicts[edition * MOST_LINES + line] & 15;
        }

        int unitsOf(int line, int edition) {
            return Math.max(1, verdicts[edition * MOST_LINES + line] >> 4 & 1023);
        }

        int ruleOf(int line, int edition) {
            return (verdicts[edition * MOST_LINES + line] >> 14) - 1;
        }

        int unlikeKinds(int edition, int other) {
            int many = 0;
            for (int line = 0; line < ledger.lines; line++) {
                if (ledger.isKnown(line) && kindOf(line, edition) != kindOf(line, other)) {
                    many++;
                }
            }
            return many;
        }

        int spentOn(int family, int week, int kind, int edition) {
            int sum = 0;
            for (int line = 0; line < ledger.lines; line++) {
                if (ledger.wentFrom(line, family, week) && isOn(line, kind, edition)) {
                    sum += ledger.penceOf[line];
                }
            }
            return sum;
        }

        boolean isOn(int line, int kind, int edition) {
            return kind == NONE || kindOf(line, edition) == kind;
        }

        private int judgeAnew(int line, int edition) {
            int first = edition * LONGEST_TEXT;
            int last = first + sizes[edition];
            int rule = 0;
            long kind = 0;
            long units = 1;
            height = 0;
            for (int at = first; at < last; at++) {
                int step = (int) (code[at] & STEP_MASK);
                long number = code[at] >> STEP_BITS;
                if (step == THEN) {
                    if (pop() == 0) {
                        at = Math.max(at, first + (int) number);
                        rule++;
                    }
                } else if (step == KIND) {
                    kind = pop();
                } else if (step == UNITS) {
                    units = pop();
                } else if (step == END) {
                    return packed(rule, kind, units);
                } else {
                    take(step, number, line);
                }
            }
            return packed(NONE, 0, 1);
        }

        private static int packed(int rule, long kind, long units) {
            int kindCut = (int) Math.min(LAST_KIND, Math.max(0, kind));
            int unitsCut = (int) Math.min(MOST_UNITS, Math.max(1, units));
            return rule + 1 << 14 | unitsCut << 4 | kindCut;
        }

        private void take(int step, long number, int line) {
            switch (step) {
                case NUMBER:
                    push(number);
                    break;
                case PENCE:
                    push(ledger.penceOf[line]);
                    break;
                case WEEK:
                    push(ledger.weekOf[line]);
                    break;
                case YEAR:
                    push(ledger.weekOf[line] / WEEKS_A_YEAR);
                    break;
                case SHOP:
                    push(ledger.shopOf[line]);
                    break;
                case HAS_WORD:
                    push(ledger.hasWord(line, number) ? 1 : 0);
                    break;
                case CAME:
                    push(ledger.came[line] ? 1 : 0);
                    break;
                case NOT:
                    push(1 - pop());
                    break;
                default:
                    long right = pop();
                    push(joined(step, pop(), right));
                    break;
            }
        }

        private static long joined(int step, long left, long right) {
            switch (step) {
                case ADD:
                    return left + right;
                case TAKE:
                    return left - right;
                case TIMES:
                    return left * right;
                case PARTS:
                    return right == 0 ? 0 : left / right;
                case LESS:
                    return left < right ? 1 : 0;
                case MORE:
                    return left > right ? 1 : 0;
                case SAME:
                    return left == right ? 1 : 0;
                case AND:
                    return left & right;
                default:
                    return left | right;
            }
        }

        private void push(long number) {
            if (height < DEEPEST) {
                stack[height] = number;
                height++;
            }
        }

        private long pop() {
            if (height <= 0) {
                return 0;
            }
            height--;
            return stack[height];
        }
    }

    /** What was TOLD, and the SLIPS that explain what is OUT. */
    private static final class Sums {
        private static final int MOST_SUM = 1000000;
        private static final int MOST_TOLD = 40;
        private static final int MOST_WENT = 9;
        private static final int MOST_SLIPS = 3;
        private static final int A_CARRY = 12;
        private static final int SLIP_KINDS = 7;

        private final Ledger ledger;
        private int told;
        private final int[] toldFamily = new int[MOST_TOLD];
        private final int[] toldWeek = new int[MOST_TOLD];
        private final int[] toldSum = new int[MOST_TOLD];
        private int went;
        private final int[] wentLine = new int[MOST_WENT];
        // By LINE and slip how much it adds; 0 where there is no such slip, since none adds nothing.
        private final int[] adds = new int[MOST_WENT * SLIP_KINDS];
        private final int[] tried = new int[MOST_WENT];
        private final int[] first = new int[MOST_WENT];
        private int fewest;
        private int rivals;
        private int carry;

        Sums(Ledger ledger) {
            this.ledger = ledger;
        }

        private int find(int family, int week) {
            for (int i = 0; i < told; i++) {
                if (toldFamily[i] == family && toldWeek[i] == week) {
                    return i;
                }
            }
            return NONE;
        }

        boolean isTold(int family, int week) {
            return find(family, week) != NONE;
        }

        boolean hasRoom(int family, int week) {
            return told < MOST_TOLD || isTold(family, week);
        }

        void tell(int family, int week, int sum) {
            int at = find(family, week);
            if (at == NONE) {
                at = told;
                told++;
            }
            toldFamily[at] = family;
            toldWeek[at] = week;
            toldSum[at] = sum;
        }

        int outBy(int family, int week) {
            int at = find(family, week);
            return at == NONE ? 0 : toldSum[at] - ledger.spentOnAll(family, week);
        }

        boolean explainLine(int line) {
            return ledger.went(line) && explain(ledger.familyOf[line], ledger.weekOf[line]);
        }

        int slipOf(int line) {
            for (int i = 0; i < went; i++) {
                if (wentLine[i] == line) {
                    return first[i];
                }
            }
            return NONE;
        }

        boolean explain(int family, int week) {
            if (!isTold(family, week) || !gather(family, week)) {
                return false;
            }
            int out = outBy(family, week);
            rivals = 0;
            for (int slips = 0; slips <= MOST_SLIPS && rivals == 0; slips++) {
                fewest = slips;
                tryFrom(0, slips, out);
            }
            return rivals > 0;
        }

        private boolean gather(int family, int week) {
            went = 0;
            for (int line = 0; line < ledger.lines; line++) {
                if (ledger.wentFrom(line, family, week)) {
                    if (went >= MOST_WENT) {
                        return false;
                    }
                    wentLine[went] = line;
                    listSlips(went * SLIP_KINDS, ledger.penceOf[line]);
                    went++;
                }
            }
            return true;
        }

        private void listSlips(int base, int pence) {
            adds[base] = 0;
            adds[base + 1] = -pence;
            adds[base + 2] = pence;
            int unit = 1;
            for (int slip = 3; slip < SLIP_KINDS; slip++) {
                int ahead = pence / (unit * 10) % 10;
                int behind = pence / unit % 10;
                // A figure ahead of the first one is not written, so nothing can change places with it.
                adds[base + slip] = pence >= unit * 10 ? (behind - ahead) * 9 * unit : 0;
                unit *= 10;
            }
        }

        /** Goes through the EXPLANATIONS in their order, so that the first one met is the first. */
        private void tryFrom(int at, int left, int rest) {
            if (at >= went) {
                tryCarry(left, rest);
                return;
            }
            tried[at] = 0;
            if (left == 0 && rest != 0) {
                return;
            }
            tryFrom(at + 1, left, rest);
            for (int slip = 1; slip < SLIP_KINDS && left > 0; slip++) {
                int added = adds[at * SLIP_KINDS + slip];
                if (added != 0) {
                    tried[at] = slip;
                    tryFrom(at + 1, left - 1, rest - added);
                }
            }
        }

        private void tryCarry(int left, int rest) {
            if (rest == -A_CARRY * left) {
                found(-left);
            } else if (rest == A_CARRY * left) {
                found(left);
            }
        }

        private void found(int carried) {
            if (rivals == 0) {
                carry = carried;
                System.arraycopy(tried, 0, first, 0, went);
            }
            rivals++;
        }
    }

    /** SUNDRIES, parted by the THINGS that the FAMILY bought in the WEEKS around. */
    private static final class Sundries {
        private static final int FARTHEST = 60;
        private static final int MOST_PARTED = 2000;
        private static final int MOST_OF_ONE = 20;
        private static final int WEEKS_AROUND = 2 * FARTHEST + 1;

        private final Ledger ledger;
        private final Judge judge;
        private int near = 10;
        private final int[] nearestLine = new int[LAST_KIND + 1];
        private final int[] prices = new int[LAST_KIND + 1];
        private final int[] most = new int[LAST_KIND + 1];
        private final int[] unitsByWeek = new int[(LAST_KIND + 1) * WEEKS_AROUND];
        private final long[] waysTo = new long[MOST_PARTED + 1];
        private int fewest;
        private int greatest;

        Sundries(Ledger ledger, Judge judge) {
            this.ledger = ledger;
            this.judge = judge;
        }

        boolean isSundries(int line, int edition) {
            return ledger.went(line) && ledger.penceOf[line] <= MOST_PARTED && judge.kindOf(line, edition) == 0;
        }

        long waysOf(int line, int edition) {
            gatherThings(line, edition);
            countWays(ledger.penceOf[line], 0);
            return waysTo[ledger.penceOf[line]];
        }

        boolean findSpan(int line, int edition, int kind) {
            gatherThings(line, edition);
            fewest = NONE;
            if (nearestLine[kind] == NONE) {
                return false;
            }
            int rest = ledger.penceOf[line];
            countWays(rest, kind);
            for (int many = 0; many <= most[kind] && rest >= 0; many++) {
                if (waysTo[rest] != 0) {
                    fewest = fewest == NONE ? many : fewest;
                    greatest = many;
                }
                rest -= prices[kind];
            }
            return fewest != NONE;
        }

        private void gatherThings(int line, int edition) {
            Arrays.fill(nearestLine, NONE);
            Arrays.fill(most, 0);
            Arrays.fill(unitsByWeek, 0);
            for (int other = 0; other < ledger.lines; other++) {
                int distance = Math.abs(ledger.weekOf[other] - ledger.weekOf[line]);
                boolean around = distance > 0 && distance <= near;
                if (around && ledger.wentFrom(other, ledger.familyOf[line]) && judge.kindOf(other, edition) > 0) {
                    addThing(line, other, edition);
                }
            }
        }

        private void addThing(int line, int other, int edition) {
            int kind = judge.kindOf(other, edition);
            int units = judge.unitsOf(other, edition);
            int slot = kind * WEEKS_AROUND + ledger.weekOf[other] - ledger.weekOf[line] + FARTHEST;
            unitsByWeek[slot] += units;
            most[kind] = Math.min(MOST_OF_ONE, Math.max(most[kind], unitsByWeek[slot]));
            if (nearestLine[kind] == NONE || isNearer(other, nearestLine[kind], line)) {
                nearestLine[kind] = other;
                prices[kind] = Math.max(1, ledger.penceOf[other] / Math.max(1, units));
            }
        }

        /** LINES come by their numbers, so of like ones in one WEEK the first stays. */
        private boolean isNearer(int candidate, int nearest, int line) {
            int own = ledger.weekOf[line];
            int distance = Math.abs(ledger.weekOf[candidate] - own);
            int least = Math.abs(ledger.weekOf[nearest] - own);
            return distance < least || distance == least && ledger.weekOf[candidate] < ledger.weekOf[nearest];
        }

        /** Counts round on in between, but no count is above 21 to the 14th, so those left are right. */
        private void countWays(int pence, int without) {
            Arrays.fill(waysTo, 0L);
            waysTo[0] = 1;
            for (int kind = 1; kind <= LAST_KIND; kind++) {
                if (kind != without && nearestLine[kind] != NONE) {
                    addAnyNumber(pence, prices[kind]);
                    takeThoseAbove(pence, prices[kind] * (most[kind] + 1));
                }
            }
        }

        private void addAnyNumber(int pence, int price) {
            for (int sum = price; sum <= pence; sum++) {
                waysTo[sum] += waysTo[sum - price];
            }
        }

        private void takeThoseAbove(int pence, int tooMuch) {
            for (int sum = pence; sum >= tooMuch; sum--) {
                waysTo[sum] -= waysTo[sum - tooMuch];
            }
        }
    }

    /** MEMBERS, and how much of a mouth each is. */
    private static final class Mouths {
        private static final int EARLIEST_BIRTH = -5200;
        private static final int MOST_MEMBERS = 40;
        private static final int YEARS_A_STEP = 5;

        private int members;
        private final int[] familyOf = new int[MOST_MEMBERS];
        private final int[] bornIn = new int[MOST_MEMBERS];
        private final int[] thereFrom = new int[MOST_MEMBERS];
        private final int[] thereTo = new int[MOST_MEMBERS];
        private final int[] hundredths = {30, 50, 70, 100};

        void addMember(int family, int born, int from, int to) {
            familyOf[members] = family;
            bornIn[members] = born;
            thereFrom[members] = from;
            thereTo[members] = to;
            members++;
        }

        void rescale(int a, int b, int c, int d) {
            hundredths[0] = a;
            hundredths[1] = b;
            hundredths[2] = c;
            hundredths[3] = d;
        }

        int together(int family, int week) {
            int sum = 0;
            for (int i = 0; i < members; i++) {
                if (familyOf[i] == family && thereFrom[i] <= week && week <= thereTo[i]) {
                    int age = (week - bornIn[i]) / WEEKS_A_YEAR;
                    sum += hundredths[Math.min(3, Math.max(0, age / YEARS_A_STEP))];
                }
            }
            return sum;
        }
    }

    /** PRICES of a KIND, joined over FAMILIES, from the least on. */
    private static final class Prices {
        private final Ledger ledger;
        private final Judge judge;
        private int shut = 3;
        private int many;
        private final int[] pence = new int[MOST_LINES];
        private final int[] units = new int[MOST_LINES];

        Prices(Ledger ledger, Judge judge) {
            this.ledger = ledger;
            this.judge = judge;
        }

        int gather(int kind, int year, int edition) {
            int families = 0;
            many = 0;
            for (int line = 0; line < ledger.lines; line++) {
                boolean inYear = ledger.weekOf[line] / WEEKS_A_YEAR == year;
                if (inYear && ledger.went(line) && judge.kindOf(line, edition) == kind) {
                    insert(ledger.penceOf[line], judge.unitsOf(line, edition));
                    families |= 1 << ledger.familyOf[line];
                }
            }
            if (many == 0) {
                return NONE_SUCH;
            }
            return Integer.bitCount(families) < shut ? IS_SHUT : FINE;
        }

        private void insert(int newPence, int newUnits) {
            int at = many;
            while (at > 0 && newPence * units[at - 1] < pence[at - 1] * newUnits) {
                pence[at] = pence[at - 1];
                units[at] = units[at - 1];
                at--;
            }
            pence[at] = newPence;
            units[at] = newUnits;
            many++;
        }

        int placeOf(int what) {
            if (what == 0) {
                return 0;
            }
            return Math.max(0, what == 1 ? (many - 1) / 2 : many - 1);
        }
    }

    /** What the WEEKS of one FAMILY tell: where its HAND changes, its GAPS and their BOUNDS. */
    private static final class Weeks {
        private final Ledger ledger;
        private final int[] hands = new int[8];
        // PENCE are above 0, so a WEEK with 0 here is one in which no LINE went.
        private final int[] spentIn = new int[LAST_WEEK + 1];
        private int firstWeek;
        private int lastWeek;
        private int least;
        private int greatest;

        Weeks(Ledger ledger) {
            this.ledger = ledger;
        }

        int unlikeHands(int family, int from, int to) {
            Arrays.fill(hands, 0);
            int many = 0;
            int most = 0;
            for (int line = 0; line < ledger.lines; line++) {
                boolean within = !outside(ledger.weekOf[line], from, to);
                if (within && ledger.familyOf[line] == family && ledger.isKnown(line)) {
                    int hand = ledger.handOf[line];
                    hands[hand]++;
                    most = Math.max(most, hands[hand]);
                    many++;
                }
            }
            return many == 0 ? NONE : many - most;
        }

        /** LINES part anew only right behind a WEEK with one, so the first of like WEEKS is such a one. */
        int bestChange(int family, int what) {
            int best = NONE;
            int fewest = NONE;
            for (int line = 0; line < ledger.lines; line++) {
                if (ledger.familyOf[line] == family && ledger.isKnown(line)) {
                    int week = ledger.weekOf[line] + 1;
                    int unlike = unlikeAt(family, week);
                    boolean better = fewest == NONE || unlike < fewest || unlike == fewest && week < best;
                    if (unlike != NONE && better) {
                        best = week;
                        fewest = unlike;
                    }
                }
            }
            return what == 0 ? best : fewest;
        }

        private int unlikeAt(int family, int week) {
            int ahead = unlikeHands(family, 0, week - 1);
            int behind = unlikeHands(family, week, LAST_WEEK);
            return ahead == NONE || behind == NONE ? NONE : ahead + behind;
        }

        private void layOut(int family) {
            Arrays.fill(spentIn, 0);
            firstWeek = LAST_WEEK;
            lastWeek = 0;
            for (int line = 0; line < ledger.lines; line++) {
                if (ledger.wentFrom(line, family)) {
                    int week = ledger.weekOf[line];
                    spentIn[week] += ledger.penceOf[line];
                    firstWeek = Math.min(firstWeek, week);
                    lastWeek = Math.max(lastWeek, week);
                }
            }
        }

        int countGaps(int family) {
            layOut(family);
            int gaps = 0;
            for (int week = firstWeek; week <= lastWeek; week++) {
                if (spentIn[week] == 0) {
                    gaps++;
                }
            }
            return gaps;
        }

        boolean findBounds(int family, int week, int n) {
            layOut(family);
            least = NONE;
            greatest = NONE;
            if (week < firstWeek || week > lastWeek || spentIn[week] != 0) {
                return false;
            }
            for (int near = Math.max(0, week - n); near <= Math.min(LAST_WEEK, week + n); near++) {
                if (spentIn[near] > 0) {
                    least = least == NONE ? spentIn[near] : Math.min(least, spentIn[near]);
                    greatest = Math.max(greatest, spentIn[near]);
                }
            }
            return least != NONE;
        }
    }

    /** The search for the WEIGHTS that come NEAREST to the MARGINS. */
    private static final class Weights {
        private static final int MOST_WEIGHED = 8;
        private static final int MARGINS = 8;
        private static final int CLASSES = 4;
        private static final int LANDS = 4;
        private static final int MOST_MARGIN = 100;

        private final Ledger ledger;
        private int weighed;
        private final int[] nearest = new int[MOST_WEIGHED];
        // What each CLASS, then each LAND, still lacks by the WEIGHTS given so far; below 0 it has too much.
        private final int[] lacks = new int[MARGINS];
        // By CLASS and LAND, how much the FAMILIES without a WEIGHT yet can have together.
        private final int[] room = new int[CLASSES * LANDS];

        Weights(Ledger ledger) {
            this.ledger = ledger;
        }

        /** Answers whether all are MARGINS; the TRAY has as many numbers. */
        boolean takeMargins(Trays trays, int tray) {
            for (int i = 0; i < MARGINS; i++) {
                long margin = trays.at(tray, i);
                if (margin < 0 || margin > MOST_MARGIN) {
                    return false;
                }
                lacks[i] = (int) margin;
            }
            return true;
        }

        /** FAMILY by FAMILY the least WEIGHT with which the others can still come as near as can be. */
        int findNearest(int n, int most) {
            weighed = n;
            Arrays.fill(room, 0);
            for (int family = 0; family < n; family++) {
                room[cellOf(family)] += most;
            }
            int least = leastUnlike();
            for (int family = 0; family < n; family++) {
                room[cellOf(family)] -= most;
                nearest[family] = 0;
                while (nearest[family] < most && leastUnlike() > least) {
                    nearest[family]++;
                    lacks[ledger.classOf[family]]--;
                    lacks[CLASSES + ledger.landOf[family]]--;
                }
            }
            return least;
        }

        private int cellOf(int family) {
            return ledger.classOf[family] * LANDS + ledger.landOf[family];
        }

        /**
         * What is UNLIKE at least, whatever the WEIGHTS still to come. Beyond a MARGIN more WEIGHT never helps,
         * so these go, as a flow from classes to lands, only where both lack some; each 1 makes it less by 2.
         */
        private int leastUnlike() {
            int apart = 0;
            for (int i = 0; i < MARGINS; i++) {
                apart += Math.abs(lacks[i]);
            }
            int flow = apart;
            // The greatest flow is the least cut: of any set of classes on the near side of it.
            for (int near = 0; near < 1 << CLASSES; near++) {
                flow = Math.min(flow, cutBehind(near));
            }
            return apart - 2 * flow;
        }

        private int cutBehind(int near) {
            int cut = 0;
            for (int what = 0; what < CLASSES; what++) {
                if ((near >> what & 1) == 0) {
                    cut += Math.max(0, lacks[what]);
                }
            }
            for (int land = 0; land < LANDS; land++) {
                int reach = 0;
                for (int what = 0; what < CLASSES; what++) {
                    reach += (near >> what & 1) * room[what * LANDS + land];
                }
                cut += Math.min(reach, Math.max(0, lacks[CLASSES + land]));
            }
            return cut;
        }
    }

    /** LOSSES of work, and what they took away beside the LIKE. */
    private static final class Losses {
        private static final int MOST_LOSSES = 12;
        private static final int LONGEST_SPAN = 26;

        private final Ledger ledger;
        private final Judge judge;
        private int losses;
        private final int[] familyOf = new int[MOST_LOSSES];
        private final int[] weekOf = new int[MOST_LOSSES];
        private long above;
        private long below;

        Losses(Ledger ledger, Judge judge) {
            this.ledger = ledger;
            this.judge = judge;
        }

        int addLoss(int family, int week) {
            familyOf[losses] = family;
            weekOf[losses] = week;
            losses++;
            return losses - 1;
        }

        int spanStatus(int loss, int n) {
            if (outside(loss, 0, losses - 1) || outside(n, 1, LONGEST_SPAN)) {
                return CANT_BE;
            }
            boolean inside = weekOf[loss] - n >= 0 && weekOf[loss] + n - 1 <= LAST_WEEK;
            return inside ? FINE : NONE_SUCH;
        }

        int countLikes(int loss, int n) {
            int many = 0;
            for (int family = 0; family < ledger.families; family++) {
                if (isLike(loss, family, n)) {
                    many++;
                }
            }
            return many;
        }

        boolean measure(int loss, int kind, int edition, int n) {
            int week = weekOf[loss];
            long likes = 0;
            long theirs = 0;
            for (int family = 0; family < ledger.families; family++) {
                if (isLike(loss, family, n)) {
                    likes++;
                    theirs += turn(family, week, kind, edition, n);
                }
            }
            above = turn(familyOf[loss], week, kind, edition, n) * likes - theirs;
            below = likes;
            return likes > 0 && wentInEach(familyOf[loss], week, n);
        }

        private boolean isLike(int loss, int family, int n) {
            int own = familyOf[loss];
            boolean otherOfClass = family != own && ledger.classOf[family] == ledger.classOf[own];
            return otherOfClass && wentInEach(family, weekOf[loss], n) && !lostNear(family, weekOf[loss], n);
        }

        private boolean lostNear(int family, int week, int n) {
            for (int i = 0; i < losses; i++) {
                if (familyOf[i] == family && !outside(weekOf[i], week - n, week + n - 1)) {
                    return true;
                }
            }
            return false;
        }

        private boolean wentInEach(int family, int week, int n) {
            // One bit for each of the 2 n WEEKS, at most 52.
            long weeks = 0;
            for (int line = 0; line < ledger.lines; line++) {
                int place = ledger.weekOf[line] - (week - n);
                if (!outside(place, 0, 2 * n - 1) && ledger.wentFrom(line, family)) {
                    weeks |= 1L << place;
                }
            }
            return Long.bitCount(weeks) == 2 * n;
        }

        private long turn(int family, int week, int kind, int edition, int n) {
            long sum = 0;
            for (int line = 0; line < ledger.lines; line++) {
                int place = ledger.weekOf[line] - week;
                boolean within = !outside(place, -n, n - 1);
                if (within && ledger.wentFrom(line, family) && judge.isOn(line, kind, edition)) {
                    sum += place >= 0 ? ledger.penceOf[line] : -ledger.penceOf[line];
                }
            }
            return sum;
        }
    }
}
