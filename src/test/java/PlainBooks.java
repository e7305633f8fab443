import java.math.BigInteger;
import java.util.ArrayList;
import java.util.Arrays;
import java.util.Collections;
import java.util.HashMap;
import java.util.List;
import java.util.Map;
import java.util.TreeMap;
import java.util.TreeSet;

/** The document read a second time, slowly and with all of Java's library, for ModelTest to compare with. */
public final class PlainBooks {
    record Line(int family, int week, int shop, int written, boolean came, int hand, int known, List<Long> words) { }

    record Reading(int line, int pence, int known) { }

    record Member(int family, int born, int from, int to) { }

    record Loss(int family, int week) { }

    record Verdict(int kind, int units, int rule) { }

    record Sum(int family, int week) { }

    private int status = 0;
    private BigInteger top = BigInteger.ZERO;
    private BigInteger bottom = BigInteger.ONE;
    private final long[][] trays = new long[4][];
    private final int[] sorts = new int[4];
    private final List<int[]> families = new ArrayList<>();
    private final List<Line> lines = new ArrayList<>();
    private final List<Reading> readings = new ArrayList<>();
    private List<Long> words = List.of();
    private int day = 0;
    private int asof = 9999;
    private String tape = "";
    private final List<PlainText> editions = new ArrayList<>();
    private PlainText latest = null;
    private final Map<Sum, Integer> told = new HashMap<>();
    private int near = 10;
    private int shut = 3;
    private final List<Member> members = new ArrayList<>();
    private int[] scale = {30, 50, 70, 100};
    private int[] weights = {};
    private final List<Loss> losses = new ArrayList<>();

    public int status() {
        return status;
    }

    public long top() {
        return top.longValueExact();
    }

    public long bottom() {
        return bottom.longValueExact();
    }

    private int no(int s) {
        status = s;
        return -1;
    }

    private int yes(int answer) {
        status = 0;
        return answer;
    }

    private boolean is(int s) {
        status = s;
        return s == 0;
    }

    private static boolean in(long v, long a, long b) {
        return a <= v && v <= b;
    }

    private int fraction(long above, long below) {
        BigInteger a = BigInteger.valueOf(above);
        BigInteger b = BigInteger.valueOf(below);
        BigInteger g = a.gcd(b);
        top = a.divide(g);
        bottom = b.divide(g);
        status = 0;
        return a.signum();
    }

    public boolean tray(int tray, int sort, int many) {
        if (!in(tray, 0, 3) || !in(sort, 0, 3) || !in(many, 0, 60)) {
            return is(1);
        }
        trays[tray] = new long[many];
        sorts[tray] = sort;
        return is(0);
    }

    private int place(int tray, int place) {
        return !in(tray, 0, 3) ? 1 : trays[tray] == null ? 2 : !in(place, 0, trays[tray].length - 1) ? 3 : 0;
    }

    public boolean write(int tray, int place, long v) {
        if (!is(place(tray, place))) {
            return false;
        }
        int cut = 64 - (8 << sorts[tray]);
        trays[tray][place] = v << cut >> cut;
        return true;
    }

    public long read(int tray, int place) {
        return is(place(tray, place)) ? trays[tray][place] : -1;
    }

    public boolean pour(int from, int place, int to, int at, int many) {
        if (!in(from, 0, 3) || !in(to, 0, 3) || place < 0 || at < 0 || many < 0) {
            return is(1);
        }
        if (trays[from] == null || trays[to] == null) {
            return is(2);
        }
        if (sorts[from] != sorts[to]) {
            return is(8);
        }
        if (0L + place + many > trays[from].length || 0L + at + many > trays[to].length) {
            return is(3);
        }
        long[] were = trays[from].clone();
        for (int i = 0; i < many; i++) {
            trays[to][at + i] = were[place + i];
        }
        return is(0);
    }

    public int family(int what, int land) {
        if (!in(what, 0, 3) || !in(land, 0, 3)) {
            return no(1);
        }
        if (families.size() == 12) {
            return no(4);
        }
        families.add(new int[] {what, land});
        return yes(families.size() - 1);
    }

    private static boolean isWord(long w) {
        String bits = Long.toBinaryString(w);
        int letters = (bits.length() + 4) / 5;
        if (letters > 8) {
            return false;
        }
        for (int i = 0; i < letters; i++) {
            if (!in(w >> 5 * i & 31, 1, 26)) {
                return false;
            }
        }
        return true;
    }

    public boolean words(long a, long b, long c) {
        List<Long> all = new ArrayList<>(List.of(a));
        if (b != 0 || c != 0) {
            all.add(b);
        }
        if (c != 0) {
            all.add(c);
        }
        for (long w : all) {
            if (!isWord(w)) {
                return is(1);
            }
        }
        words = all;
        return is(0);
    }

    private boolean fam(int f) {
        return in(f, 0, families.size() - 1);
    }

    private static boolean week(int w) {
        return in(w, 0, 519);
    }

    private boolean ed(int e) {
        return in(e, 0, editions.size() - 1);
    }

    public int line(int family, int week, int shop, int pence, boolean came, int hand, int known) {
        if (!fam(family) || !week(week) || !in(shop, 0, 9) || !in(pence, 1, 20000) || !in(hand, 0, 7)
            || !in(known, 0, 9999)) {
            return no(1);
        }
        if (lines.size() == 200) {
            return no(4);
        }
        if (known < day) {
            return no(5);
        }
        if (words.isEmpty()) {
            return no(6);
        }
        lines.add(new Line(family, week, shop, pence, came, hand, known, words));
        words = List.of();
        day = known;
        return yes(lines.size() - 1);
    }

    public boolean reading(int line, int pence, int known) {
        if (!in(line, 0, lines.size() - 1) || !in(pence, 1, 20000) || !in(known, 0, 9999)) {
            return is(1);
        }
        if (readings.size() == 60) {
            return is(4);
        }
        if (known < day) {
            return is(5);
        }
        day = known;
        readings.add(new Reading(line, pence, known));
        return is(0);
    }

    public boolean asof(int d) {
        if (!in(d, 0, 9999)) {
            return is(1);
        }
        asof = d;
        return is(0);
    }

    private boolean known(int line) {
        return lines.get(line).known <= asof;
    }

    private int p(int line) {
        int p = lines.get(line).written;
        for (Reading r : readings) {
            if (r.line == line && r.known <= asof) {
                p = r.pence;
            }
        }
        return p;
    }

    private int lineStatus(int line) {
        return !in(line, 0, lines.size() - 1) ? 1 : known(line) ? 0 : 6;
    }

    public int pence(int line) {
        return is(lineStatus(line)) ? p(line) : -1;
    }

    public int feed(int a, int b, int c, int d, int e) {
        if (tape.length() > 580) {
            return -1;
        }
        StringBuilder more = new StringBuilder(tape);
        for (int four : new int[] {a, b, c, d, e}) {
            more.append((char) (four >>> 24)).append((char) (four >>> 16 & 255));
            more.append((char) (four >>> 8 & 255)).append((char) (four & 255));
        }
        tape = more.toString();
        return tape.length();
    }

    public int edition(int n) {
        if (!in(n, 0, tape.length())) {
            return no(1);
        }
        if (editions.size() == 5) {
            return no(4);
        }
        latest = new PlainText(tape.substring(0, n));
        tape = "";
        if (latest.fault != 0) {
            return no(9);
        }
        editions.add(latest);
        return yes(editions.size() - 1);
    }

    public int fault(int what) {
        if (latest == null || !in(what, 0, 2)) {
            return -1;
        }
        return what == 0 ? latest.fault : what == 1 ? latest.place : latest.fault == 0 ? latest.rules.size() : 0;
    }

    private Verdict judge(int line, int edition) {
        Line l = lines.get(line);
        return editions.get(edition).judge(l, p(line));
    }

    public int kind(int line, int edition, int what) {
        if (lineStatus(line) == 1 || !ed(edition) || !in(what, 0, 2)) {
            return no(1);
        }
        if (!known(line)) {
            return no(6);
        }
        Verdict v = judge(line, edition);
        if (what == 2 && v.rule == -1) {
            return no(6);
        }
        return yes(what == 0 ? v.kind : what == 1 ? v.units : v.rule);
    }

    public int moved(int edition, int other) {
        if (!ed(edition) || !ed(other)) {
            return no(1);
        }
        int many = 0;
        for (int i = 0; i < lines.size(); i++) {
            if (known(i) && judge(i, edition).kind != judge(i, other).kind) {
                many++;
            }
        }
        return yes(many);
    }

    /** LINES of a FAMILY that went in the WEEKS given, as known. */
    private List<Integer> went(int family, int from, int to) {
        List<Integer> went = new ArrayList<>();
        for (int i = 0; i < lines.size(); i++) {
            Line l = lines.get(i);
            if (known(i) && !l.came && l.family == family && in(l.week, from, to)) {
                went.add(i);
            }
        }
        return went;
    }

    private int sum(int family, int from, int to, int kind, int edition) {
        int sum = 0;
        for (int i : went(family, from, to)) {
            if (kind == -1 || judge(i, edition).kind == kind) {
                sum += p(i);
            }
        }
        return sum;
    }

    public int spent(int family, int week, int kind, int edition) {
        if (!fam(family) || !week(week) || !in(kind, -1, 15) || !ed(edition)) {
            return no(1);
        }
        return yes(sum(family, week, week, kind, edition));
    }

    public boolean told(int family, int week, int sum) {
        if (!fam(family) || !week(week) || !in(sum, 0, 1000000)) {
            return is(1);
        }
        Sum s = new Sum(family, week);
        if (!told.containsKey(s) && told.size() == 40) {
            return is(4);
        }
        told.put(s, sum);
        return is(0);
    }

    public int out(int family, int week) {
        if (!fam(family) || !week(week)) {
            return no(1);
        }
        Integer t = told.get(new Sum(family, week));
        return t == null ? no(6) : yes(t - sum(family, week, week, -1, -1));
    }

    /** Slips of a LINE by their numbers, by writing the figures out. */
    private static Map<Integer, Integer> slipsOf(int pence) {
        Map<Integer, Integer> slips = new TreeMap<>();
        slips.put(0, 0);
        slips.put(1, -pence);
        slips.put(2, pence);
        String figures = Integer.toString(pence);
        for (int at = figures.length() - 2, slip = 3; at >= 0; at--, slip++) {
            char[] f = figures.toCharArray();
            if (f[at] != f[at + 1]) {
                char c = f[at];
                f[at] = f[at + 1];
                f[at + 1] = c;
                slips.put(slip, Integer.parseInt(new String(f)) - pence);
            }
        }
        return slips;
    }

    /** All EXPLANATIONS with at most three SLIPS, in their order: the slips of LINES, CARRY, how many. */
    private List<int[]> explanations(int family, int week) {
        Integer t = told.get(new Sum(family, week));
        List<Integer> went = went(family, week, week);
        if (t == null || went.size() > 9) {
            return List.of();
        }
        List<int[]> found = new ArrayList<>();
        explain(went, new int[went.size() + 2], 0, 0, t - sum(family, week, week, -1, -1), found);
        return found;
    }

    private void explain(List<Integer> went, int[] so, int at, int slips, int rest, List<int[]> found) {
        if (slips > 3) {
            return;
        }
        if (at == went.size()) {
            for (int c = -3; c <= 3; c++) {
                if (12 * c == rest && slips + Math.abs(c) <= 3) {
                    so[at] = c;
                    so[at + 1] = slips + Math.abs(c);
                    found.add(so.clone());
                }
            }
            return;
        }
        for (Map.Entry<Integer, Integer> slip : slipsOf(p(went.get(at))).entrySet()) {
            so[at] = slip.getKey();
            explain(went, so, at + 1, slips + (slip.getKey() == 0 ? 0 : 1), rest - slip.getValue(), found);
        }
    }

    private List<int[]> fewest(int family, int week) {
        List<int[]> all = explanations(family, week);
        int least = 9;
        for (int[] e : all) {
            least = Math.min(least, e[e.length - 1]);
        }
        List<int[]> few = new ArrayList<>();
        for (int[] e : all) {
            if (e[e.length - 1] == least) {
                few.add(e);
            }
        }
        return few;
    }

    public int slips(int family, int week, int what) {
        if (!fam(family) || !week(week) || !in(what, 0, 2)) {
            return no(1);
        }
        List<int[]> few = fewest(family, week);
        if (few.isEmpty()) {
            return no(6);
        }
        int[] first = few.get(0);
        return yes(what == 0 ? first[first.length - 1] : what == 1 ? few.size() : first[first.length - 2]);
    }

    public int slip(int line) {
        int s = lineStatus(line);
        if (s != 0) {
            return no(s);
        }
        Line l = lines.get(line);
        List<int[]> few = fewest(l.family, l.week);
        if (l.came || few.isEmpty()) {
            return no(6);
        }
        return yes(few.get(0)[went(l.family, l.week, l.week).indexOf(line)]);
    }

    public boolean rules(int n, int s) {
        if (!in(n, 1, 60) || !in(s, 1, 12)) {
            return is(1);
        }
        near = n;
        shut = s;
        return is(0);
    }

    private int sundries(int line, int edition) {
        if (lineStatus(line) == 1 || !ed(edition)) {
            return 1;
        }
        boolean so = known(line) && !lines.get(line).came && judge(line, edition).kind == 0 && p(line) <= 2000;
        return so ? 0 : 6;
    }

    /** THINGS by KIND: PRICE and MOST. */
    private Map<Integer, int[]> things(int line, int edition) {
        Line own = lines.get(line);
        Map<Integer, int[]> things = new TreeMap<>();
        for (int kind = 1; kind < 16; kind++) {
            int price = 0;
            int most = 0;
            for (int away = 1; away <= near; away++) {
                for (int week : new int[] {own.week - away, own.week + away}) {
                    int units = 0;
                    for (int i : went(own.family, week, week)) {
                        Verdict v = judge(i, edition);
                        if (v.kind == kind) {
                            price = price == 0 ? Math.max(1, p(i) / v.units) : price;
                            units += v.units;
                        }
                    }
                    most = Math.max(most, units);
                }
            }
            if (price > 0) {
                things.put(kind, new int[] {price, Math.min(most, 20)});
            }
        }
        return things;
    }

    /** How many WAYS have so many of each sum, with one KIND held at a number (or none held). */
    private BigInteger count(int line, int edition, int held, int at) {
        int pence = p(line);
        BigInteger[] ways = new BigInteger[pence + 1];
        Arrays.fill(ways, BigInteger.ZERO);
        ways[0] = BigInteger.ONE;
        for (Map.Entry<Integer, int[]> t : things(line, edition).entrySet()) {
            BigInteger[] next = new BigInteger[pence + 1];
            Arrays.fill(next, BigInteger.ZERO);
            for (int many = 0; many <= t.getValue()[1]; many++) {
                int cost = many * t.getValue()[0];
                for (int s = cost; s <= pence && (t.getKey() != held || many == at); s++) {
                    next[s] = next[s].add(ways[s - cost]);
                }
            }
            ways = next;
        }
        return ways[pence];
    }

    public long ways(int line, int edition) {
        return is(sundries(line, edition)) ? count(line, edition, -1, 0).longValueExact() : -1;
    }

    public int span(int line, int edition, int kind, int what) {
        if (!in(kind, 1, 15) || !in(what, 0, 1)) {
            return no(1);
        }
        if (!is(sundries(line, edition))) {
            return -1;
        }
        if (!things(line, edition).containsKey(kind)) {
            return no(6);
        }
        TreeSet<Integer> may = new TreeSet<>();
        for (int many = 0; many <= 20; many++) {
            if (count(line, edition, kind, many).signum() > 0) {
                may.add(many);
            }
        }
        return may.isEmpty() ? no(6) : yes(what == 0 ? may.first() : may.last());
    }

    public boolean member(int family, int born, int from, int to) {
        if (!fam(family) || !in(born, -5200, 519) || !week(from) || !week(to) || from > to || from < born) {
            return is(1);
        }
        if (members.size() == 40) {
            return is(4);
        }
        members.add(new Member(family, born, from, to));
        return is(0);
    }

    public boolean scale(int a, int b, int c, int d) {
        int[] all = {a, b, c, d};
        for (int s : all) {
            if (!in(s, 0, 100)) {
                return is(1);
            }
        }
        scale = all;
        return is(0);
    }

    private int m(int family, int week) {
        int sum = 0;
        for (Member m : members) {
            if (m.family == family && in(week, m.from, m.to)) {
                int age = Math.floorDiv(week - m.born, 52);
                sum += age < 5 ? scale[0] : age < 10 ? scale[1] : age < 15 ? scale[2] : scale[3];
            }
        }
        return sum;
    }

    public int mouths(int family, int week) {
        return !fam(family) || !week(week) ? no(1) : yes(m(family, week));
    }

    public int share(int family, int week, int kind, int edition) {
        if (!fam(family) || !week(week) || !in(kind, -1, 15) || !ed(edition)) {
            return no(1);
        }
        int m = m(family, week);
        return m == 0 ? no(6) : fraction(100L * sum(family, week, week, kind, edition), m);
    }

    public int price(int kind, int year, int edition, int what) {
        if (!in(kind, 0, 15) || !in(year, 0, 9) || !ed(edition) || !in(what, 0, 2)) {
            return no(1);
        }
        TreeSet<Integer> who = new TreeSet<>();
        List<int[]> prices = new ArrayList<>();
        for (int f = 0; f < families.size(); f++) {
            for (int i : went(f, year * 52, year * 52 + 51)) {
                if (judge(i, edition).kind == kind) {
                    who.add(f);
                    prices.add(new int[] {p(i), judge(i, edition).units});
                }
            }
        }
        if (prices.isEmpty()) {
            return no(6);
        }
        if (who.size() < shut) {
            return no(7);
        }
        Collections.sort(prices, (a, b) -> Long.compare((long) a[0] * b[1], (long) b[0] * a[1]));
        int n = prices.size();
        int[] p = prices.get(what == 0 ? 0 : what == 2 ? n - 1 : n % 2 == 0 ? n / 2 - 1 : n / 2);
        return fraction(p[0], p[1]);
    }

    /** UNLIKE of the LINES of a FAMILY in these WEEKS; -1 if there are none. */
    private int unlike(int family, int from, int to) {
        int[] hands = new int[8];
        int many = 0;
        for (int i = 0; i < lines.size(); i++) {
            Line l = lines.get(i);
            if (known(i) && l.family == family && in(l.week, from, to)) {
                hands[l.hand]++;
                many++;
            }
        }
        return many == 0 ? -1 : many - Arrays.stream(hands).max().getAsInt();
    }

    public int change(int family, int what) {
        if (!fam(family) || !in(what, 0, 2)) {
            return no(1);
        }
        if (what == 2) {
            int all = unlike(family, 0, 519);
            return all == -1 ? no(6) : yes(all);
        }
        int best = -1;
        int least = 9999;
        for (int week = 1; week < 520; week++) {
            int a = unlike(family, 0, week - 1);
            int b = unlike(family, week, 519);
            if (a != -1 && b != -1 && a + b < least) {
                best = week;
                least = a + b;
            }
        }
        return best == -1 ? no(6) : yes(what == 0 ? best : least);
    }

    public int weights(int n, int most, int tray) {
        if (!in(n, 1, 8) || n > families.size() || !in(most, 1, 4) || !in(tray, 0, 3)) {
            return no(1);
        }
        if (trays[tray] == null) {
            return no(2);
        }
        if (trays[tray].length < 8) {
            return no(3);
        }
        for (int i = 0; i < 8; i++) {
            if (!in(trays[tray][i], 0, 100)) {
                return no(1);
            }
        }
        int least = 9999;
        int all = (int) Math.round(Math.pow(most + 1, n));
        for (int choice = 0; choice < all; choice++) {
            int[] w = new int[n];
            long[] off = Arrays.copyOf(trays[tray], 8);
            int rest = choice;
            for (int f = n - 1; f >= 0; f--) {
                w[f] = rest % (most + 1);
                rest /= most + 1;
                off[families.get(f)[0]] -= w[f];
                off[4 + families.get(f)[1]] -= w[f];
            }
            int unlike = 0;
            for (long o : off) {
                unlike += Math.abs(o);
            }
            if (unlike < least) {
                least = unlike;
                weights = w;
            }
        }
        return yes(least);
    }

    public int weight(int family) {
        return family < 0 ? no(1) : family < weights.length ? yes(weights[family]) : no(6);
    }

    private TreeSet<Integer> weeks(int family) {
        TreeSet<Integer> weeks = new TreeSet<>();
        for (int i : went(family, 0, 519)) {
            weeks.add(lines.get(i).week);
        }
        return weeks;
    }

    public int gaps(int family) {
        if (!fam(family)) {
            return no(1);
        }
        TreeSet<Integer> weeks = weeks(family);
        return yes(weeks.isEmpty() ? 0 : weeks.last() - weeks.first() + 1 - weeks.size());
    }

    public int bound(int family, int week, int n, int what) {
        if (!fam(family) || !week(week) || !in(n, 1, 60) || !in(what, 0, 1)) {
            return no(1);
        }
        TreeSet<Integer> weeks = weeks(family);
        if (weeks.isEmpty() || week < weeks.first() || week > weeks.last() || weeks.contains(week)) {
            return no(6);
        }
        TreeSet<Integer> sums = new TreeSet<>();
        for (int w : weeks) {
            if (Math.abs(w - week) <= n) {
                sums.add(sum(family, w, w, -1, -1));
            }
        }
        return sums.isEmpty() ? no(6) : yes(what == 0 ? sums.first() : sums.last());
    }

    public int loss(int family, int week) {
        if (!fam(family) || !week(week)) {
            return no(1);
        }
        if (losses.size() == 12) {
            return no(4);
        }
        losses.add(new Loss(family, week));
        return yes(losses.size() - 1);
    }

    private boolean each(int family, int from, int to) {
        return weeks(family).subSet(from, to + 1).size() == to - from + 1;
    }

    private List<Integer> alike(int loss, int n) {
        Loss l = losses.get(loss);
        List<Integer> alike = new ArrayList<>();
        for (int f = 0; f < families.size(); f++) {
            boolean lost = false;
            for (Loss o : losses) {
                lost |= o.family == f && in(o.week, l.week - n, l.week + n - 1);
            }
            boolean like = families.get(f)[0] == families.get(l.family)[0];
            if (f != l.family && like && !lost && each(f, l.week - n, l.week + n - 1)) {
                alike.add(f);
            }
        }
        return alike;
    }

    public int fell(int loss, int kind, int edition, int n) {
        if (!in(loss, 0, losses.size() - 1) || !in(kind, -1, 15) || !ed(edition) || !in(n, 1, 26)) {
            return no(1);
        }
        Loss l = losses.get(loss);
        if (l.week - n < 0 || l.week + n - 1 > 519 || !each(l.family, l.week - n, l.week + n - 1)) {
            return no(6);
        }
        List<Integer> alike = alike(loss, n);
        if (alike.isEmpty()) {
            return no(6);
        }
        long theirs = 0;
        for (int f : alike) {
            theirs += turn(f, l.week, kind, edition, n);
        }
        return fraction(alike.size() * (long) turn(l.family, l.week, kind, edition, n) - theirs, alike.size());
    }

    private int turn(int family, int week, int kind, int edition, int n) {
        return sum(family, week, week + n - 1, kind, edition) - sum(family, week - n, week - 1, kind, edition);
    }

    public int likes(int loss, int n) {
        if (!in(loss, 0, losses.size() - 1) || !in(n, 1, 26)) {
            return no(1);
        }
        int week = losses.get(loss).week;
        return week - n < 0 || week + n - 1 > 519 ? no(6) : yes(alike(loss, n).size());
    }
}
