/** Promises 25 to 33: come, comeRow, reach, apart, upperBetween, lowerBetween, rungs, rungUpper, rungLower. */
final class ComeTest {
    private static final int[] WRONG = {-1, 5, Integer.MIN_VALUE, Integer.MAX_VALUE};

    private ComeTest() {
    }

    /** 2 by 1, 1 by 2, 0 by 1, 1 by 0, 8 by 5. */
    private static RopeDancers fresh() {
        return Due.with("hall slips 0;dance a tt;dance b ttrt;dance c tu;dance d r;dance e ttrtttrtt");
    }

    public static void main(String[] args) {
        come(fresh());
        noFraction(fresh());
        atTheBound();
        reach(fresh());
        apart(fresh());
        between(fresh());
        greatBetween();
        rungs(fresh());
        wrong(fresh());
        Due.end("ComeTest");
    }

    private static void way(RopeDancers x, int d, int over, int under, int row) {
        int calls = row > 0 ? Integer.toString(row).length() : row;
        Due.due(x, "P25 come " + d + " to " + over + "/" + under, x.come(d, over, under), calls, 0);
        Due.due(x, "P26 comeRow " + d + " to " + over + "/" + under, x.comeRow(d, over, under), row, 0);
    }

    private static void come(RopeDancers x) {
        way(x, 0, 2, 1, 0);
        way(x, 0, 3, 1, 1);
        way(x, 0, 1, 1, 2);
        way(x, 0, -1, 2, 3);
        way(x, 0, 0, 1, 22);
        way(x, 0, 9, 1, 1111111);
        way(x, 0, 10, 1, -2);
        // 2/1 1/1 -1/1, then down by ones
        way(x, 0, -5, 1, 232222);
        way(x, 0, -6, 1, 2322222);
        way(x, 0, -7, 1, -2);
        way(x, 0, 1, 0, 223);
        way(x, 2, -1, 1, 2);
        way(x, 2, 1, 0, 3);
        way(x, 3, 0, 1, 3);
        way(x, 3, 1, 0, 0);
        way(x, 3, 2, 1, 311);
        way(x, 2, 1, 2, 223);
        way(x, 2, -1, 2, 113);
        way(x, 2, -2, 1, 22);
        way(x, 1, -2, 1, 3);
        way(x, 1, -1, 2, 2);
        way(x, 1, 0, 1, 311);
        way(x, 4, 0, 1, -2);
        way(x, 4, 3, 5, 2);
        way(x, 4, 1, 3, 2311);
        way(x, 4, -5, 8, 3);
        // 1/1 -> -1/1 -> 1/0 -> 0/1 and 1/1 -> 0/1 -> ..: of rows of as many calls the first by digits
        for (int over = -4; over <= 4; over++) {
            way(x, 0, over, 1, firstOf(2, 1, over, 1));
            way(x, 3, over, 1, firstOf(1, 0, over, 1));
            if (over % 3 != 0) {
                way(x, 1, over, 3, firstOf(1, 2, over, 3));
                way(x, 2, over, 3, firstOf(0, 1, over, 3));
            }
        }
    }

    /** By counting up rows of calls as numbers. */
    private static int firstOf(int fromOver, int fromUnder, int over, int under) {
        for (int row = 0; row < 4000000; row++) {
            Model.Frac f = new Model.Frac(fromOver, fromUnder);
            boolean fine = true;
            for (char digit : row == 0 ? new char[0] : Integer.toString(row).toCharArray()) {
                fine &= digit >= '1' && digit <= '3';
                if (fine) {
                    f = f.by(digit - '1');
                }
            }
            if (fine && f.p() == over && f.q() == under) {
                return row;
            }
        }
        return -2;
    }

    private static void noFraction(RopeDancers x) {
        int[][] none = {{-1, 0}, {0, 0}, {2, 0}, {0, 2}, {2, 4}, {-3, 9}, {1, -1}, {0, -1}, {10000, 1}, {-10000, 1}, {1, 10000},
            {Integer.MIN_VALUE, 1}, {Integer.MAX_VALUE, 1}, {1, Integer.MIN_VALUE}, {1, Integer.MAX_VALUE},
            {Integer.MIN_VALUE, Integer.MIN_VALUE}, {9999, 9999}, {9998, 2}};
        for (int[] f : none) {
            Due.due(x, "P25 no fraction " + f[0] + "/" + f[1], x.come(0, f[0], f[1]), -1, 2);
            Due.due(x, "P26 no fraction " + f[0] + "/" + f[1], x.comeRow(0, f[0], f[1]), -1, 2);
            Due.due(x, "P25 1 ahead of 2", x.come(7, f[0], f[1]), -1, 1);
            Due.due(x, "P26 1 ahead of 2", x.comeRow(7, f[0], f[1]), -1, 1);
        }
        for (int[] f : new int[][] {{9999, 1}, {-9999, 1}, {1, 9999}, {9999, 9998}, {-9998, 9999}}) {
            way(x, 0, f[0], f[1], -2);
        }
    }

    /** No CALL on the way may be above 9,999. */
    private static void atTheBound() {
        RopeDancers x = at9999();
        Due.due("at 9999", x.upper(0), 9999);
        Due.due(x, "P58 no twist above", x.call(0, 0), -1, 3);
        way(x, 0, 9999, 1, 0);
        way(x, 0, 9992, 1, 2222222);
        way(x, 0, -1, 9999, 3);
        // 9998/9999 by r, t; -9999/1 would be by uuu.., or never
        way(x, 0, 9998, 9999, 31);
        way(x, 0, -9999, 1, -2);
        x.call(0, 2);
        // -1/9999 less 1 would be -10000/9999
        Due.due(x, "P58 no untwist below", x.call(0, 1), -1, 3);
        way(x, 0, 9999, 1, 3);
        way(x, 0, -9999, 9998, 13);
    }

    /** Two grow in turn to 12 times 610; a third gathers what lacks, 3 and 12 times (3, 21, 55, 144). */
    static RopeDancers at9999() {
        RopeDancers x = Due.with("hall slips 0;dance a tttttttttttt;dance b tttttttttttt;dance c ttt");
        for (int i = 0; i < 13; i++) {
            x.join(i % 2, 1 - i % 2);
            if (i == 1 || i == 5 || i == 7 || i == 9) {
                x.join(2, 1);
            }
        }
        x.join(0, 2);
        return x;
    }

    private static void reach(RopeDancers x) {
        int[] counts = {1, 4, 6, 10, 16, 26, 42, 68};
        for (int n = 7; n >= 0; n--) {
            Due.due(x, "P27 reach " + n, x.reach(n), counts[n], 0);
        }
        for (int n : new int[] {-1, 8, Integer.MIN_VALUE, Integer.MAX_VALUE}) {
            Due.due(x, "P27 reach " + n, x.reach(n), -1, 2);
            RopeDancers y = new RopeDancers();
            Due.due(y, "P27 no HALL " + n, y.reach(n), -1, 1);
        }
        RopeDancers y = new RopeDancers();
        Due.due(y, "P27 no HALL", y.reach(3), -1, 1);
    }

    private static void apart(RopeDancers x) {
        int[] over = {2, 1, 0, 1, 8};
        int[] under = {1, 2, 1, 0, 5};
        for (int d = 0; d < 5; d++) {
            for (int other = 0; other < 5; other++) {
                int far = Math.abs(over[d] * under[other] - over[other] * under[d]);
                Due.due(x, "P28 apart " + d + " " + other, x.apart(d, other), far, 0);
            }
        }
        Due.due("P28 a known one", x.apart(0, 1), 3);
        Due.due("P28 a known one", x.apart(3, 4), 5);
    }

    private static void gap(RopeDancers x, int d, int other, int over, int under) {
        gapOne(x, d, other, over, under);
        gapOne(x, other, d, over, under);
    }

    private static void gapOne(RopeDancers x, int d, int other, int over, int under) {
        // other answers between, that none is taken from the call ahead
        x.upperAfter(0, 0);
        Due.due(x, "P29 upperBetween " + d + " " + other, x.upperBetween(d, other), over, 0);
        x.upperAfter(0, 0);
        Due.due(x, "P30 lowerBetween " + d + " " + other, x.lowerBetween(d, other), under, 0);
    }

    private static void between(RopeDancers x) {
        gap(x, 0, 1, 1, 1);
        gap(x, 0, 2, 1, 1);
        gap(x, 1, 2, 1, 3);
        gap(x, 0, 4, 5, 3);
        gap(x, 1, 4, 1, 1);
        gap(x, 2, 4, 1, 1);
        // -2 and 2; -3 and -1 by 2; 5 and 0
        RopeDancers y = Due.with("hall slips 0;dance a uu;dance b tt;dance c uuuu;dance d ttr;dance e ttttttt");
        gap(y, 0, 1, 0, 1);
        gap(y, 2, 3, -1, 1);
        gap(y, 1, 4, 3, 1);
        gap(y, 2, 4, 0, 1);
        gap(y, 0, 2, -3, 1);
        gap(y, 0, 3, -1, 1);
        gap(y, 3, 1, 0, 1);
        // 1 and 2, 1 and 0, -1 and 0, -1 and -2
        RopeDancers z = Due.with("hall slips 0;dance a t;dance b tt;dance c tu;dance d u;dance e uu");
        gap(z, 0, 1, 3, 2);
        gap(z, 0, 2, 1, 2);
        gap(z, 2, 3, -1, 2);
        gap(z, 3, 4, -3, 2);
        gap(z, 1, 4, 0, 1);
        // troubles
        Due.due(x, "P29 unlike", x.upperBetween(0, 0), -100000, 1);
        Due.due(x, "P30 unlike", x.lowerBetween(0, 0), -1, 1);
        Due.due(x, "P30 unlike ahead of 1 by 0", x.lowerBetween(3, 3), -1, 1);
        for (int d = 0; d < 5; d++) {
            if (d != 3) {
                Due.due(x, "P29 1 by 0", x.upperBetween(d, 3), -100000, 5);
                Due.due(x, "P29 1 by 0", x.upperBetween(3, d), -100000, 5);
                Due.due(x, "P30 1 by 0", x.lowerBetween(d, 3), -1, 5);
                Due.due(x, "P30 1 by 0", x.lowerBetween(3, d), -1, 5);
            }
        }
        RopeDancers w = Due.with("hall slips 0;dance a tt;dance b ttrr");
        Due.due(w, "P29 the same", w.upperBetween(0, 1), -100000, 5);
        Due.due(w, "P30 the same", w.lowerBetween(1, 0), -1, 5);
        w.flip(1);
        Due.due(w, "P29 by a sign apart", w.upperBetween(0, 1), 0, 0);
    }

    /** Both of great lower ones: 1 by n and 1 by n - 1 have 2 by 2n - 1 between them. */
    private static void greatBetween() {
        RopeDancers x = Due.with("hall slips 0;dance a tttttttttttt;dance b tttttttttttt;dance c t");
        for (int i = 0; i < 12; i++) {
            x.join(i % 2, 1 - i % 2);
        }
        int n = x.upper(1);
        x.join(1, 0);
        x.reset(0);
        x.join(0, 1);
        Due.due("no join to it, it is 0 by 1", x.upper(0), x.upper(1));
        n = x.upper(0);
        x.call(0, 1);
        x.call(0, 2);
        x.call(1, 2);
        gap(x, 0, 1, -2, 2 * n - 1);
        x.flip(0);
        x.flip(1);
        gap(x, 0, 1, 2, 2 * n - 1);
        x.flip(1);
        gap(x, 0, 1, 0, 1);
        Due.due("P28 great", x.apart(0, 1), 2 * n - 1);
    }

    private static void rungs(RopeDancers x) {
        int[] counts = {2, 3, 5, 7, 11, 13, 19, 23, 29, 33};
        for (int n = 1; n <= 10; n++) {
            Due.due(x, "P31 rungs " + n, x.rungs(n), counts[n - 1], 0);
        }
        Due.due("P31 rungs 200", x.rungs(200), 12233);
        int[] over = {0, 1, 1, 1, 2, 1, 3, 2, 3, 4, 1};
        int[] under = {1, 5, 4, 3, 5, 2, 5, 3, 4, 5, 1};
        for (int i = 0; i < 11; i++) {
            Due.due(x, "P32 rungUpper " + i, x.rungUpper(5, i), over[i], 0);
            Due.due(x, "P33 rungLower " + i, x.rungLower(5, i), under[i], 0);
        }
        Due.due("P32 of 1", x.rungUpper(1, 0), 0);
        Due.due("P32 of 1", x.rungUpper(1, 1), 1);
        Due.due("P33 of 200", x.rungLower(200, 1), 200);
        Due.due("P32 of 200", x.rungUpper(200, 12231), 199);
        Due.due("P33 of 200", x.rungLower(200, 12232), 1);
        for (int i : new int[] {-1, 11, Integer.MIN_VALUE, Integer.MAX_VALUE}) {
            Due.due(x, "P32 none such " + i, x.rungUpper(5, i), -1, 6);
            Due.due(x, "P33 none such " + i, x.rungLower(5, i), -1, 6);
        }
        Due.due(x, "P32 none such", x.rungUpper(200, 12233), -1, 6);
        for (int n : new int[] {0, 201, -1, Integer.MIN_VALUE, Integer.MAX_VALUE}) {
            Due.due(x, "P31 rungs " + n, x.rungs(n), -1, 2);
            Due.due(x, "P32 2 ahead of 6", x.rungUpper(n, -1), -1, 2);
            Due.due(x, "P33 2 ahead of 6", x.rungLower(n, -1), -1, 2);
            RopeDancers y = new RopeDancers();
            Due.due(y, "P31 no HALL", y.rungs(n), -1, 1);
            Due.due(y, "P32 no HALL", y.rungUpper(n, 0), -1, 1);
            Due.due(y, "P33 no HALL", y.rungLower(5, 0), -1, 1);
        }
    }

    private static void wrong(RopeDancers x) {
        for (int d : WRONG) {
            Due.due(x, "P25 come " + d, x.come(d, 0, 1), -1, 1);
            Due.due(x, "P26 comeRow " + d, x.comeRow(d, 0, 1), -1, 1);
            Due.due(x, "P28 apart " + d, x.apart(d, 0), -1, 1);
            Due.due(x, "P28 apart to " + d, x.apart(0, d), -1, 1);
            Due.due(x, "P29 upperBetween " + d, x.upperBetween(d, 0), -100000, 1);
            Due.due(x, "P29 upperBetween to " + d, x.upperBetween(0, d), -100000, 1);
            Due.due(x, "P30 lowerBetween " + d, x.lowerBetween(d, 0), -1, 1);
            Due.due(x, "P30 lowerBetween to " + d, x.lowerBetween(0, d), -1, 1);
        }
    }
}
