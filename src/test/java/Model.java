import java.math.BigInteger;
import java.util.ArrayDeque;
import java.util.ArrayList;
import java.util.Arrays;
import java.util.HashMap;
import java.util.LinkedHashMap;
import java.util.List;
import java.util.Map;
import java.util.NoSuchElementException;
import java.util.TreeMap;
import java.util.TreeSet;
import java.util.regex.Matcher;
import java.util.regex.Pattern;

/**
 * The document once more, written another way and with the whole library: ropes are followed
 * end by end, ways are sought breadth first, chances are shares of big numbers.
 */
final class Model {
    private static final int NONE = -1;

    /** A fraction in lowest terms. */
    record Frac(long p, long q) {
        Frac twist() {
            return new Frac(p + q, q);
        }

        Frac untwist() {
            return new Frac(p - q, q);
        }

        Frac turn() {
            if (q == 0) {
                return new Frac(0, 1);
            }
            if (p == 0) {
                return new Frac(1, 0);
            }
            return p < 0 ? new Frac(q, -p) : new Frac(-q, p);
        }

        Frac by(int figure) {
            return switch (figure) {
                case 0 -> q == 0 ? this : twist();
                case 1 -> q == 0 ? this : untwist();
                default -> turn();
            };
        }

        boolean great() {
            return Math.abs(p) > 9999 || q > 9999;
        }

        List<Long> parts() {
            List<Long> all = new ArrayList<>();
            BigInteger x = BigInteger.valueOf(p).abs();
            BigInteger y = BigInteger.valueOf(q);
            while (y.signum() != 0) {
                BigInteger[] both = x.divideAndRemainder(y);
                all.add(both[0].longValue());
                x = y;
                y = both[1];
            }
            return all;
        }

        long crossings() {
            return parts().stream().mapToLong(Long::longValue).sum();
        }

        long knot(boolean down) {
            return down ? q : Math.abs(p);
        }

        List<Integer> untying() {
            List<Integer> figures = new ArrayList<>();
            Frac f = this;
            while (f.p != 0) {
                int figure = f.p < 0 ? 0 : 2;
                figures.add(figure);
                f = f.by(figure);
            }
            return figures;
        }
    }

    private static final Frac START = new Frac(0, 1);

    /** The other ends of a tangle: ends[c] is the corner to which the rope from c goes. */
    static int[] ropes(Frac f) {
        // built up from 0 by 1 by the figures that untie it, taken back
        List<Integer> figures = f.untying();
        int[] ends = {1, 0, 3, 2};
        for (int i = figures.size() - 1; i >= 0; i--) {
            ends = figures.get(i) == 0 ? swapped(ends) : turnedBack(ends);
        }
        return ends;
    }

    /** The dancers at ne and se change places. */
    private static int[] swapped(int[] ends) {
        int[] to = {0, 3, 2, 1};
        return moved(ends, to);
    }

    private static int[] turnedBack(int[] ends) {
        int[] to = {2, 0, 3, 1};
        return moved(ends, to);
    }

    private static int[] moved(int[] ends, int[] to) {
        int[] then = new int[4];
        for (int c = 0; c < 4; c++) {
            then[to[c]] = to[ends[c]];
        }
        return then;
    }

    static final class Seen {
        int d;
        int number;
        int from;
        int to;
    }

    static final class Told {
        int slips;
        List<String> rows = new ArrayList<>();
        List<String> names = new ArrayList<>();
        List<int[]> unsure = new ArrayList<>();
        List<Seen> seen = new ArrayList<>();
    }

    record Token(char kind, String sign, int place) {
    }

    /** A FAULT, on the way. */
    static final class Fault extends Exception {
        final int number;
        final int place;

        Fault(int number, int place) {
            super(null, null, false, false);
            this.number = number;
            this.place = place;
        }
    }

    private StringBuilder tape = new StringBuilder();
    private Told told = null;
    private List<Frac> now = new ArrayList<>();
    private final ArrayDeque<List<Frac>> past = new ArrayDeque<>();
    private final List<List<Frac>> images = new ArrayList<>();
    private int trouble = 0;
    private int fault = 0;
    private int place = NONE;

    // ---- the hall

    public int feed(int a, int b, int c, int d, int e) {
        if (tape.length() > 580) {
            return NONE;
        }
        for (int number : new int[] {a, b, c, d, e}) {
            for (byte sign : BigInteger.valueOf(number & 0xffffffffL | 1L << 40).toByteArray()) {
                tape.append((char) (sign & 255));
            }
            tape.delete(tape.length() - 6, tape.length() - 4);
        }
        return tape.length();
    }

    public int hall(int n) {
        if (n < 0 || n > tape.length()) {
            return no(2, NONE);
        }
        String text = tape.substring(0, n);
        tape = new StringBuilder();
        try {
            told = read(text);
        } catch (Fault met) {
            fault = met.number;
            place = met.place;
            return no(4, NONE);
        }
        fault = 0;
        now = new ArrayList<>();
        for (String row : told.rows) {
            now.add(after(row, row.length(), 0));
        }
        past.clear();
        images.clear();
        return yes(told.rows.size());
    }

    private static List<Token> tokens(String text) {
        List<Token> all = new ArrayList<>();
        Pattern pattern = Pattern.compile(" +|[a-z]+|[0-9]+|;|.", Pattern.DOTALL);
        Matcher m = pattern.matcher(text);
        while (m.find()) {
            String sign = m.group();
            if (sign.startsWith(" ")) {
                continue;
            }
            char kind = '?';
            if (sign.matches("[a-z]{1,12}")) {
                kind = 'w';
            } else if (sign.matches("[0-9]{1,3}")) {
                kind = 'n';
            } else if (sign.equals(";")) {
                kind = ';';
            }
            all.add(new Token(kind, sign, m.start()));
        }
        all.add(new Token('e', "", text.length()));
        return all;
    }

    private static final Map<String, String> LINES = Map.of(
        "hall", "LSp", "dance", "LNR", "unsure", "LDu", "seen", "LDnCc");

    /** L: the line's word. S: slips. p: slips' number. N, D: a name new, told. R: a row. u, n: places. C, c: corners. */
    private static Told read(String text) throws Fault {
        Told t = new Told();
        boolean hall = false;
        String form = "";
        String line = "";
        int d = -1;
        Seen seen = new Seen();
        for (Token k : tokens(text)) {
            if (k.kind == '?') {
                throw new Fault(1, k.place);
            }
            if (form.isEmpty() && !line.isEmpty()) {
                if (k.kind == 'e') {
                    if (t.rows.isEmpty()) {
                        throw new Fault(6, k.place);
                    }
                    return t;
                }
                need(k.kind == ';', 1, k);
                line = "";
                continue;
            }
            if (line.isEmpty()) {
                need(k.kind == 'w' && LINES.containsKey(k.sign), 1, k);
                line = k.sign;
                form = LINES.get(line).substring(1);
                if (line.equals("hall")) {
                    need(!hall, 3, k);
                    hall = true;
                } else {
                    need(room(t, line), 5, k);
                    need(hall, 6, k);
                }
                continue;
            }
            char what = form.charAt(0);
            form = form.substring(1);
            need(k.kind == ("Spnu".indexOf(what) > 0 ? 'n' : 'w'), 1, k);
            int value = k.kind == 'n' ? Integer.parseInt(k.sign) : 0;
            switch (what) {
                case 'S' -> need(k.sign.equals("slips"), 1, k);
                case 'p' -> {
                    need(value <= 100, 4, k);
                    t.slips = value;
                }
                case 'N' -> {
                    need(name(k.sign), 1, k);
                    need(!t.names.contains(k.sign), 3, k);
                    t.names.add(k.sign);
                }
                case 'D' -> {
                    need(name(k.sign), 1, k);
                    d = t.names.indexOf(k.sign);
                    need(d >= 0, 2, k);
                }
                case 'R' -> {
                    need(k.sign.matches("[tur]+"), 7, k);
                    t.rows.add(k.sign);
                }
                case 'u' -> {
                    need(value < t.rows.get(d).length(), 4, k);
                    for (int[] u : t.unsure) {
                        need(u[0] != d || u[1] != value, 3, k);
                    }
                    t.unsure.add(new int[] {d, value});
                }
                case 'n' -> {
                    need(value <= t.rows.get(d).length(), 4, k);
                    for (Seen s : t.seen) {
                        need(s.d != d || s.number != value, 3, k);
                    }
                    seen = new Seen();
                    seen.d = d;
                    seen.number = value;
                }
                default -> {
                    int corner = List.of("nw", "ne", "sw", "se").indexOf(k.sign);
                    need(corner >= 0, 1, k);
                    if (what == 'C') {
                        seen.from = corner;
                    } else {
                        need(corner != seen.from, 3, k);
                        seen.to = corner;
                        t.seen.add(seen);
                    }
                }
            }
        }
        throw new IllegalStateException("the end is always met");
    }

    private static boolean room(Told t, String line) {
        return switch (line) {
            case "dance" -> t.rows.size() < 5;
            case "unsure" -> t.unsure.size() < 4;
            default -> t.seen.size() < 6;
        };
    }

    private static boolean name(String word) {
        return word.length() <= 8 && !LINES.containsKey(word);
    }

    private static void need(boolean fine, int number, Token k) throws Fault {
        if (!fine) {
            throw new Fault(number, k.place);
        }
    }

    public int fault() {
        return fault;
    }

    public int where() {
        return trouble == 4 ? place : NONE;
    }

    // ---- a tangle

    public int upper(int d) {
        return is(d) ? yes(now.get(d).p) : no(1, -100000);
    }

    public int lower(int d) {
        return is(d) ? yes(now.get(d).q) : no(1, NONE);
    }

    public int end(int d, int corner) {
        return is(d) && corner(corner) ? yes(ropes(now.get(d))[corner]) : no(1, NONE);
    }

    public int parts(int d) {
        return is(d) ? yes(now.get(d).parts().size()) : no(1, NONE);
    }

    public int part(int d, int i) {
        return is(d) && i >= 0 && i < now.get(d).parts().size() ? yes(now.get(d).parts().get(i)) : no(1, NONE);
    }

    public int crossings(int d) {
        return is(d) ? yes(now.get(d).crossings()) : no(1, NONE);
    }

    // ---- its row

    private static Frac after(String row, int n, int leftOut) {
        Frac f = START;
        for (int i = 0; i < n; i++) {
            if ((leftOut & 1 << i) == 0) {
                f = f.by("tur".indexOf(row.charAt(i)));
            }
        }
        return f;
    }

    public int figures(int d) {
        return is(d) ? yes(told.rows.get(d).length()) : no(1, NONE);
    }

    public int figure(int d, int i) {
        if (!is(d) || i < 0 || i >= told.rows.get(d).length()) {
            return no(1, NONE);
        }
        return yes("tur".indexOf(told.rows.get(d).charAt(i)));
    }

    private int rowTrouble(int d, int n) {
        if (!is(d)) {
            return 1;
        }
        return n < 0 || n > told.rows.get(d).length() ? 2 : 0;
    }

    public int upperAfter(int d, int n) {
        int t = rowTrouble(d, n);
        return t == 0 ? yes(after(told.rows.get(d), n, 0).p) : no(t, -100000);
    }

    public int lowerAfter(int d, int n) {
        int t = rowTrouble(d, n);
        return t == 0 ? yes(after(told.rows.get(d), n, 0).q) : no(t, NONE);
    }

    public int mostAt(int d) {
        if (!is(d)) {
            return no(1, NONE);
        }
        String row = told.rows.get(d);
        TreeMap<Long, Integer> first = new TreeMap<>();
        for (int n = 0; n <= row.length(); n++) {
            first.putIfAbsent(after(row, n, 0).crossings(), n);
        }
        return yes(first.lastEntry().getValue());
    }

    public int goesFirst(int d, int corner, int to) {
        if (!is(d) || !corner(corner) || !corner(to) || corner == to) {
            return no(1, NONE);
        }
        int n = 0;
        while (n <= told.rows.get(d).length()) {
            if (ropes(after(told.rows.get(d), n, 0))[corner] == to) {
                return yes(n);
            }
            n++;
        }
        return yes(-2);
    }

    public int again(int d) {
        if (!is(d)) {
            return no(1, NONE);
        }
        String row = told.rows.get(d);
        Frac f = START;
        for (int i = 0; i < 60 * row.length(); i++) {
            f = f.by("tur".indexOf(row.charAt(i % row.length())));
            if (f.great()) {
                break;
            }
            if ((i + 1) % row.length() == 0 && f.equals(START)) {
                return yes((i + 1) / row.length());
            }
        }
        return yes(-2);
    }

    /** The product of matrices, the last figure's ahead. */
    private long[] matrix(int d) {
        long[] m = {1, 0, 0, 1};
        for (char c : told.rows.get(d).toCharArray()) {
            long[] by = c == 't' ? new long[] {1, 1, 0, 1} : c == 'u' ? new long[] {1, -1, 0, 1} : new long[] {0, -1, 1, 0};
            m = new long[] {by[0] * m[0] + by[1] * m[2], by[0] * m[1] + by[1] * m[3],
                by[2] * m[0] + by[3] * m[2], by[2] * m[1] + by[3] * m[3]};
        }
        return m;
    }

    public int trace(int d) {
        return is(d) ? yes(Math.abs(matrix(d)[0] + matrix(d)[3])) : no(1, NONE);
    }

    public int sameDance(int d, int other) {
        if (!is(d) || !is(other)) {
            return no(1, NONE);
        }
        // tried on many tangles, not on matrices
        for (long q = 0; q < 12; q++) {
            for (long p = -60; p < 60; p++) {
                if (BigInteger.valueOf(p).gcd(BigInteger.valueOf(q)).intValue() != 1 || q == 0 && p != 1) {
                    continue;
                }
                Frac one = new Frac(p, q);
                Frac two = one;
                for (char c : told.rows.get(d).toCharArray()) {
                    one = one.by("tur".indexOf(c));
                }
                for (char c : told.rows.get(other).toCharArray()) {
                    two = two.by("tur".indexOf(c));
                }
                if (!one.equals(two)) {
                    return yes(0);
                }
            }
        }
        return yes(1);
    }

    // ---- untied

    public int untie(int d) {
        return is(d) ? yes(now.get(d).untying().size()) : no(1, NONE);
    }

    public int turnsOf(int d) {
        return is(d) ? yes(now.get(d).untying().stream().filter(f -> f == 2).count()) : no(1, NONE);
    }

    public int untieAt(int d, int i) {
        if (!is(d) || i < 0 || i >= now.get(d).untying().size()) {
            return no(1, NONE);
        }
        return yes(now.get(d).untying().get(i));
    }

    public int widest(int d) {
        if (!is(d)) {
            return no(1, NONE);
        }
        Frac f = now.get(d);
        long most = f.q;
        for (int figure : f.untying()) {
            f = f.by(figure);
            most = Math.max(most, f.q);
        }
        return yes(most);
    }

    // ---- from one to another

    private static boolean fraction(long p, long q) {
        if (q < 0 || q > 9999 || Math.abs(p) > 9999) {
            return false;
        }
        return q == 0 ? p == 1 : BigInteger.valueOf(p).gcd(BigInteger.valueOf(q)).equals(BigInteger.ONE);
    }

    /** All that can be had, each by its first row. */
    private static Map<Frac, String> had(Frac from, int n) {
        Map<Frac, String> rows = new LinkedHashMap<>();
        rows.put(from, "");
        for (int i = 0; i < n; i++) {
            for (Map.Entry<Frac, String> each : new ArrayList<>(rows.entrySet())) {
                for (int figure = 0; figure < 3; figure++) {
                    Frac f = each.getKey().by(figure);
                    if (!f.great()) {
                        rows.putIfAbsent(f, each.getValue() + (figure + 1));
                    }
                }
            }
        }
        return rows;
    }

    private int comeTrouble(int d, int p, int q) {
        if (!is(d)) {
            return 1;
        }
        return fraction(p, q) ? 0 : 2;
    }

    public int come(int d, int upper, int lower) {
        int t = comeTrouble(d, upper, lower);
        if (t != 0) {
            return no(t, NONE);
        }
        String row = had(now.get(d), 7).get(new Frac(upper, lower));
        return yes(row == null ? -2 : row.length());
    }

    public int comeRow(int d, int upper, int lower) {
        int t = comeTrouble(d, upper, lower);
        if (t != 0) {
            return no(t, NONE);
        }
        String row = had(now.get(d), 7).get(new Frac(upper, lower));
        return yes(row == null ? -2 : Integer.parseInt("0" + row));
    }

    public int reach(int n) {
        int t = bounds(n, 0, 7);
        return t == 0 ? yes(had(START, n).size()) : no(t, NONE);
    }

    public int apart(int d, int other) {
        if (!is(d) || !is(other)) {
            return no(1, NONE);
        }
        return yes(Math.abs(now.get(d).p * now.get(other).q - now.get(other).p * now.get(d).q));
    }

    /** By whole parts: the simplest that is between. */
    private static Frac simplest(Frac a, Frac b) {
        if (a.p * b.q > b.p * a.q) {
            return simplest(b, a);
        }
        if (a.p < 0 && b.p > 0) {
            return START;
        }
        if (b.p <= 0) {
            Frac f = simplest(new Frac(-b.p, b.q), new Frac(-a.p, a.q));
            return new Frac(-f.p, f.q);
        }
        long whole = a.p / a.q;
        if ((whole + 1) * b.q < b.p) {
            return new Frac(whole + 1, 1);
        }
        // 0 <= a - whole < b - whole <= 1
        Frac low = new Frac(a.p - whole * a.q, a.q);
        Frac high = new Frac(b.p - whole * b.q, b.q);
        Frac f;
        if (low.p == 0) {
            // 1 by n, the first below high
            f = new Frac(1, high.q / high.p + 1);
        } else {
            Frac up = simplest(new Frac(high.q, high.p), new Frac(low.q, low.p));
            f = new Frac(up.q, up.p);
        }
        return new Frac(f.p + whole * f.q, f.q);
    }

    private int betweenTrouble(int d, int other) {
        if (!is(d) || !is(other) || d == other) {
            return 1;
        }
        return now.get(d).q == 0 || now.get(other).q == 0 || now.get(d).equals(now.get(other)) ? 5 : 0;
    }

    public int upperBetween(int d, int other) {
        int t = betweenTrouble(d, other);
        return t == 0 ? yes(simplest(now.get(d), now.get(other)).p) : no(t, -100000);
    }

    public int lowerBetween(int d, int other) {
        int t = betweenTrouble(d, other);
        return t == 0 ? yes(simplest(now.get(d), now.get(other)).q) : no(t, NONE);
    }

    private static List<Frac> ladder(int n) {
        List<Frac> all = new ArrayList<>();
        for (long q = 1; q <= n; q++) {
            for (long p = 0; p <= q; p++) {
                if (BigInteger.valueOf(p).gcd(BigInteger.valueOf(q)).intValue() == 1) {
                    all.add(new Frac(p, q));
                }
            }
        }
        all.sort((a, b) -> Long.compare(a.p * b.q, b.p * a.q));
        return all;
    }

    private static final Map<Integer, List<Frac>> LADDERS = new HashMap<>();

    private static List<Frac> rungsOf(int n) {
        return LADDERS.computeIfAbsent(n, Model::ladder);
    }

    public int rungs(int n) {
        int t = bounds(n, 1, 200);
        return t == 0 ? yes(rungsOf(n).size()) : no(t, NONE);
    }

    private int rungTrouble(int n, int i) {
        int t = bounds(n, 1, 200);
        return t == 0 && (i < 0 || i >= rungsOf(n).size()) ? 6 : t;
    }

    public int rungUpper(int n, int i) {
        int t = rungTrouble(n, i);
        return t == 0 ? yes(rungsOf(n).get(i).p) : no(t, NONE);
    }

    public int rungLower(int n, int i) {
        int t = rungTrouble(n, i);
        return t == 0 ? yes(rungsOf(n).get(i).q) : no(t, NONE);
    }

    // ---- closed

    public int knot(int d, boolean down) {
        return is(d) ? yes(now.get(d).knot(down)) : no(1, NONE);
    }

    public int rings(int d, boolean down) {
        if (!is(d)) {
            return no(1, NONE);
        }
        // the ropes and what ties them, followed from nw on
        int[] ends = ropes(now.get(d));
        int tie = down ? 2 : 1;
        int met = 0;
        int corner = 0;
        do {
            corner = ends[corner] ^ tie;
            met++;
        } while (corner != 0);
        return yes(met == 2 ? 1 : 2);
    }

    public int colours(int d, boolean down, int m) {
        if (!is(d)) {
            return no(1, NONE);
        }
        if (m < 2 || m > 99) {
            return no(2, NONE);
        }
        // m for each x of which knot times x is a multiple of m
        int count = 0;
        for (int x = 0; x < m; x++) {
            if (now.get(d).knot(down) * x % m == 0) {
                count += m;
            }
        }
        return yes(count);
    }

    public int beside(int d, int other) {
        if (!is(d) || !is(other)) {
            return no(1, NONE);
        }
        return yes(Math.abs(now.get(d).p * now.get(other).q + now.get(other).p * now.get(d).q));
    }

    private static boolean alikeBy(long k, long a, long b) {
        return k < 2 || Math.floorMod(a - b, k) == 0 || Math.floorMod(a * b, k) == 1;
    }

    private int compare(int d, int other, int sign) {
        if (!is(d) || !is(other)) {
            return no(1, NONE);
        }
        Frac a = new Frac(sign * now.get(d).p, now.get(d).q);
        Frac b = now.get(other);
        return yes(a.knot(false) == b.knot(false)
            && alikeBy(a.knot(false), Long.signum(a.p) * a.q, Long.signum(b.p) * b.q) ? 1 : 0);
    }

    public int alike(int d, int other) {
        return compare(d, other, 1);
    }

    public int mirrored(int d, int other) {
        return compare(d, other, -1);
    }

    public int kinds(int k, boolean mirror) {
        int t = bounds(k, 1, 200);
        if (t != 0) {
            return no(t, NONE);
        }
        TreeSet<String> sorts = new TreeSet<>();
        for (int a = 1; a <= k; a++) {
            if (BigInteger.valueOf(a).gcd(BigInteger.valueOf(k)).intValue() != 1) {
                continue;
            }
            TreeSet<Integer> sort = new TreeSet<>();
            int inverse = BigInteger.valueOf(a).modInverse(BigInteger.valueOf(k)).intValue();
            sort.add(a % k);
            sort.add(inverse % k);
            if (mirror) {
                sort.add(Math.floorMod(-a, k));
                sort.add(Math.floorMod(-inverse, k));
            }
            sorts.add(sort.toString());
        }
        return yes(sorts.size());
    }

    // ---- unsure figures

    private List<Integer> sets() {
        List<Integer> all = new ArrayList<>();
        for (int set = 0; set < 1 << told.unsure.size(); set++) {
            boolean fits = true;
            for (Seen s : told.seen) {
                fits &= went(s, set);
            }
            if (fits) {
                all.add(set);
            }
        }
        return all;
    }

    private boolean went(Seen s, int set) {
        int leftOut = 0;
        for (int u = 0; u < told.unsure.size(); u++) {
            if ((set >> u) % 2 == 1 && told.unsure.get(u)[0] == s.d) {
                leftOut += 1 << told.unsure.get(u)[1];
            }
        }
        return ropes(after(told.rows.get(s.d), s.number, leftOut))[s.from] == s.to;
    }

    public int fits() {
        return told == null ? no(1, NONE) : yes(sets().size());
    }

    public int fitAt(int i) {
        return told == null || i < 0 || i >= sets().size() ? no(1, NONE) : yes(sets().get(i));
    }

    public int could() {
        return told == null ? no(1, NONE) : yes(sets().stream().reduce(0, (a, b) -> a | b));
    }

    public int surely() {
        return told == null ? no(1, NONE) : yes(sets().stream().reduce((a, b) -> a & b).orElse(0));
    }

    private int leaves(int u) {
        long with = sets().stream().filter(s -> (s >> u) % 2 == 1).count();
        return (int) Math.max(with, sets().size() - with);
    }

    private int asked() {
        if (sets().isEmpty() || told.unsure.isEmpty()) {
            return -2;
        }
        int best = 0;
        for (int u = 1; u < told.unsure.size(); u++) {
            if (leaves(u) < leaves(best)) {
                best = u;
            }
        }
        return best;
    }

    public int ask() {
        return told == null ? no(1, NONE) : yes(asked());
    }

    public int askLeaves() {
        return told == null ? no(1, NONE) : yes(asked() == -2 ? -2 : leaves(asked()));
    }

    public int judge() {
        if (told == null) {
            return no(1, NONE);
        }
        for (Seen s : told.seen) {
            if (!went(s, 0)) {
                return yes(told.seen.indexOf(s));
            }
        }
        return yes(-2);
    }

    // ---- by turns

    private static final Map<List<Object>, Integer> GAMES = new HashMap<>();

    /** 1 if who calls wins, -1 if the other one does, 0 nobody. */
    private static int game(Frac f, int n) {
        if (n == 0) {
            return 0;
        }
        List<Object> key = List.of(f, n);
        Integer known = GAMES.get(key);
        if (known != null) {
            return known;
        }
        int best = -1;
        for (int figure = 0; figure < 3; figure++) {
            Integer by = gameBy(f, figure, n);
            if (by != null) {
                best = Math.max(best, by);
            }
        }
        GAMES.put(key, best);
        return best;
    }

    private static Integer gameBy(Frac f, int figure, int n) {
        Frac then = f.by(figure);
        if (then.great()) {
            return null;
        }
        return then.equals(START) ? Integer.valueOf(1) : Integer.valueOf(-game(then, n - 1));
    }

    private int gameTrouble(int d, int n) {
        if (!is(d)) {
            return 1;
        }
        return n < 0 || n > 8 ? 2 : 0;
    }

    public int callers(int d, int n) {
        int t = gameTrouble(d, n);
        return t == 0 ? yes(new int[] {2, 0, 1}[game(now.get(d), n) + 1]) : no(t, NONE);
    }

    public int callsBy(int d, int n) {
        int t = gameTrouble(d, n);
        if (t != 0) {
            return no(t, NONE);
        }
        for (int figure = 0; figure < 3 && n > 0; figure++) {
            Integer by = gameBy(now.get(d), figure, n);
            if (by != null && by == game(now.get(d), n)) {
                return yes(figure);
            }
        }
        return yes(-2);
    }

    /** By one and other (0 stands, 1 bows): what the one has, what the other has. */
    private static int[] pays(int pride, int one, int other) {
        int[][][] table = {{{-pride, -pride}, {2, 0}}, {{0, 2}, {1, 1}}};
        return table[one][other];
    }

    public int bows(int pride, boolean one, boolean other, boolean ofOther) {
        int t = bounds(pride, 0, 9);
        return t == 0 ? yes(pays(pride, one ? 1 : 0, other ? 1 : 0)[ofOther ? 1 : 0]) : no(t, -100);
    }

    private static List<Integer> restsOf(int pride) {
        List<Integer> all = new ArrayList<>();
        for (int one = 0; one < 2; one++) {
            for (int other = 0; other < 2; other++) {
                boolean better = pays(pride, 1 - one, other)[0] > pays(pride, one, other)[0]
                    || pays(pride, one, 1 - other)[1] > pays(pride, one, other)[1];
                if (!better) {
                    all.add(10 * one + other);
                }
            }
        }
        return all;
    }

    public int rests(int pride) {
        int t = bounds(pride, 0, 9);
        return t == 0 ? yes(restsOf(pride).size()) : no(t, NONE);
    }

    public int rest(int pride) {
        int t = bounds(pride, 0, 9);
        return t == 0 ? yes(restsOf(pride).isEmpty() ? -2 : restsOf(pride).get(0)) : no(t, NONE);
    }

    // ---- slips

    private int slipTrouble(int d, int n) {
        if (!is(d)) {
            return 1;
        }
        return n < 0 || n > 8 || n > told.rows.get(d).length() ? 2 : 0;
    }

    /** Of 100 to the n: how many lead to each fraction. */
    private Map<Frac, BigInteger> shares(int d, int n) {
        Map<Frac, BigInteger> shares = new HashMap<>();
        shares.put(START, BigInteger.ONE);
        BigInteger slip = BigInteger.valueOf(told.slips);
        BigInteger danced = BigInteger.valueOf(100 - told.slips);
        for (int i = 0; i < n; i++) {
            int figure = "tur".indexOf(told.rows.get(d).charAt(i));
            Map<Frac, BigInteger> then = new HashMap<>();
            for (Map.Entry<Frac, BigInteger> each : shares.entrySet()) {
                then.merge(each.getKey(), each.getValue().multiply(slip), BigInteger::add);
                then.merge(each.getKey().by(figure), each.getValue().multiply(danced), BigInteger::add);
            }
            shares = then;
        }
        return shares;
    }

    private long lowest(BigInteger sum, int n, boolean lower) {
        BigInteger all = BigInteger.valueOf(100).pow(n);
        BigInteger both = sum.gcd(all);
        trouble = 0;
        return (lower ? all : sum).divide(both).longValueExact();
    }

    public long odds(int d, int n, int corner, int to, boolean lower) {
        if (!is(d) || !corner(corner) || !corner(to) || corner == to) {
            return no(1, -1);
        }
        if (slipTrouble(d, n) != 0) {
            return no(2, -1);
        }
        BigInteger sum = BigInteger.ZERO;
        for (Map.Entry<Frac, BigInteger> each : shares(d, n).entrySet()) {
            if (ropes(each.getKey())[corner] == to) {
                sum = sum.add(each.getValue());
            }
        }
        return lowest(sum, n, lower);
    }

    public long untied(int d, int n, boolean lower) {
        int t = slipTrouble(d, n);
        return t == 0 ? lowest(shares(d, n).getOrDefault(START, BigInteger.ZERO), n, lower) : no(t, -1);
    }

    public long mean(int d, int n, boolean lower) {
        int t = slipTrouble(d, n);
        if (t != 0) {
            return no(t, -1);
        }
        BigInteger sum = BigInteger.ZERO;
        for (Map.Entry<Frac, BigInteger> each : shares(d, n).entrySet()) {
            sum = sum.add(each.getValue().multiply(BigInteger.valueOf(each.getKey().crossings())));
        }
        return lowest(sum, n, lower);
    }

    private int drawTrouble(int d, int seed, int n) {
        if (!is(d)) {
            return 1;
        }
        return seed < 0 || seed > 65536 || n < 0 || n > told.rows.get(d).length() ? 2 : 0;
    }

    private Frac drawn(int d, int seed, int n) {
        BigInteger draw = BigInteger.valueOf(seed);
        Frac f = START;
        for (int i = 0; i < n; i++) {
            draw = draw.multiply(BigInteger.valueOf(75)).add(BigInteger.valueOf(74)).mod(BigInteger.valueOf(65537));
            if (draw.intValue() % 100 >= told.slips) {
                f = f.by("tur".indexOf(told.rows.get(d).charAt(i)));
            }
        }
        return f;
    }

    public int drawnUpper(int d, int seed, int n) {
        int t = drawTrouble(d, seed, n);
        return t == 0 ? yes(drawn(d, seed, n).p) : no(t, -100000);
    }

    public int drawnLower(int d, int seed, int n) {
        int t = drawTrouble(d, seed, n);
        return t == 0 ? yes(drawn(d, seed, n).q) : no(t, NONE);
    }

    // ---- acts

    private void act(int d, Frac f) {
        past.push(new ArrayList<>(now));
        while (past.size() > 16) {
            past.removeLast();
        }
        now.set(d, f);
    }

    public int call(int d, int figure) {
        if (!is(d)) {
            return no(1, NONE);
        }
        if (figure < 0 || figure > 2) {
            return no(2, NONE);
        }
        if (now.get(d).by(figure).great()) {
            return no(3, NONE);
        }
        act(d, now.get(d).by(figure));
        return yes(now.get(d).crossings());
    }

    public boolean flip(int d) {
        if (!is(d)) {
            return no(1, 0) != 0;
        }
        Frac f = now.get(d);
        if (f.p == 0 || f.q == 0) {
            return no(5, 0) != 0;
        }
        act(d, new Frac(-f.p, f.q));
        return yes(1) == 1;
    }

    public boolean reset(int d) {
        if (!is(d)) {
            return no(1, 0) != 0;
        }
        if (now.get(d).equals(START)) {
            return no(5, 0) != 0;
        }
        act(d, START);
        return yes(1) == 1;
    }

    public int join(int d, int other) {
        if (!is(d) || !is(other) || d == other) {
            return no(1, NONE);
        }
        Frac f = now.get(d);
        Frac w = now.get(other);
        if (w.q != 1 || w.p == 0 || f.q == 0) {
            return no(5, NONE);
        }
        Frac sum = new Frac(f.p + w.p * f.q, f.q);
        if (sum.great()) {
            return no(3, NONE);
        }
        act(d, sum);
        return yes(sum.crossings());
    }

    public boolean undo() {
        if (past.isEmpty()) {
            return no(6, 0) != 0;
        }
        now = past.pop();
        return yes(1) == 1;
    }

    public int image() {
        if (told == null) {
            return no(1, NONE);
        }
        if (images.size() == 3) {
            return no(3, NONE);
        }
        images.add(new ArrayList<>(now));
        return yes(images.size() - 1);
    }

    public boolean back(int image) {
        if (image < 0 || image >= images.size()) {
            return no(1, 0) != 0;
        }
        now = new ArrayList<>(images.get(image));
        past.clear();
        return yes(1) == 1;
    }

    // ---- what is told

    public int led(int i) throws NoSuchElementException {
        List<Integer> all = new ArrayList<>();
        for (int d = 0; d < now.size(); d++) {
            if (now.get(d).equals(START)) {
                all.add(d);
            }
        }
        if (i < 0 || i >= all.size()) {
            throw new NoSuchElementException();
        }
        return all.get(i);
    }

    public int size(int what) {
        Told t = told == null ? new Told() : told;
        List<Integer> sizes = Arrays.asList(t.slips, t.rows.size(), t.unsure.size(), t.seen.size(),
            past.size(), images.size(), tape.length());
        return what < 0 || what > 6 ? NONE : sizes.get(what);
    }

    public int trouble() {
        return trouble;
    }

    private boolean is(int d) {
        return d >= 0 && d < now.size();
    }

    private static boolean corner(int c) {
        return c >= 0 && c <= 3;
    }

    private int bounds(int n, int least, int most) {
        if (told == null) {
            return 1;
        }
        return n < least || n > most ? 2 : 0;
    }

    private int yes(long answer) {
        trouble = 0;
        return Math.toIntExact(answer);
    }

    private int no(int number, int answer) {
        trouble = number;
        return answer;
    }
}
