/** Promises 6 to 11: upper, lower, end, parts, part, crossings. */
final class TangleTest {
    private static final int[] WRONG = {-1, 5, Integer.MIN_VALUE, Integer.MAX_VALUE};

    private TangleTest() {
    }

    /** 2 by 1, 1 by 2, 0 by 1, 1 by 0, 8 by 5. */
    private static RopeDancers fresh() {
        return Due.with("hall slips 0;dance a tt;dance b ttrt;dance c tu;dance d rtuttuu;dance e ttrtttrtt");
    }

    public static void main(String[] args) {
        fractions(fresh());
        corners(fresh());
        wholeParts(fresh());
        wrong(fresh());
        great();
        Due.end("TangleTest");
    }

    private static void fractions(RopeDancers x) {
        int[] over = {2, 1, 0, 1, 8};
        int[] under = {1, 2, 1, 0, 5};
        for (int d = 0; d < 5; d++) {
            Due.due(x, "P6 upper " + d, x.upper(d), over[d], 0);
            Due.due(x, "P7 lower " + d, x.lower(d), under[d], 0);
        }
        RopeDancers y = Due.with("hall slips 0;dance a uur;dance b uuu;dance c ttr;dance d ur;dance e rrr");
        int[] otherOver = {1, -3, -1, 1, 1};
        int[] otherUnder = {2, 1, 2, 1, 0};
        for (int d = 0; d < 5; d++) {
            Due.due("P6 upper " + d, y.upper(d), otherOver[d]);
            Due.due("P7 lower " + d, y.lower(d), otherUnder[d]);
        }
    }

    private static void corners(RopeDancers x) {
        int[][] goes = {{1, 0, 3, 2}, {2, 3, 0, 1}, {1, 0, 3, 2}, {2, 3, 0, 1}, {1, 0, 3, 2}};
        for (int d = 0; d < 5; d++) {
            for (int corner = 0; corner < 4; corner++) {
                Due.due(x, "P8 end " + d + " " + corner, x.end(d, corner), goes[d][corner], 0);
            }
        }
        RopeDancers y = Due.with("hall slips 0;dance a u;dance b uu;dance c uur;dance d tttrt;dance e uuu");
        int[][] crosses = {{3, 2, 1, 0}, {1, 0, 3, 2}, {2, 3, 0, 1}, {1, 0, 3, 2}, {3, 2, 1, 0}};
        for (int d = 0; d < 5; d++) {
            for (int corner = 0; corner < 4; corner++) {
                Due.due("P8 end of another " + d + " " + corner, y.end(d, corner), crosses[d][corner]);
            }
        }
    }

    private static void wholeParts(RopeDancers x) {
        int[][] parts = {{2}, {0, 2}, {0}, {}, {1, 1, 1, 2}};
        for (int d = 0; d < 5; d++) {
            Due.due(x, "P9 parts " + d, x.parts(d), parts[d].length, 0);
            int sum = 0;
            for (int i = 0; i < parts[d].length; i++) {
                Due.due(x, "P10 part " + d + " " + i, x.part(d, i), parts[d][i], 0);
                sum += parts[d][i];
            }
            Due.due(x, "P10 no part " + d, x.part(d, parts[d].length), -1, 1);
            Due.due(x, "P10 no part " + d, x.part(d, -1), -1, 1);
            Due.due(x, "P10 no part " + d, x.part(d, Integer.MAX_VALUE), -1, 1);
            Due.due(x, "P11 crossings " + d, x.crossings(d), sum, 0);
        }
        // the sign is left away: -3 by 2, -1 by 3
        RopeDancers y = Due.with("hall slips 0;dance a ttruu;dance b tttr;dance c ttrt");
        Due.due("P6 below 0", y.upper(0), -5);
        Due.due("P9 below 0", y.parts(0), 2);
        Due.due("P10 below 0", y.part(0, 0), 2);
        Due.due("P10 below 0", y.part(0, 1), 2);
        Due.due("P11 below 0", y.crossings(0), 4);
        Due.due("P10 below 0", y.part(1, 0), 0);
        Due.due("P10 below 0", y.part(1, 1), 3);
        Due.due("P11 below 0", y.crossings(1), 3);
        // they are of the TANGLE now
        y.call(2, 0);
        Due.due("P6 now", y.upper(2), 3);
        Due.due("P7 now", y.lower(2), 2);
        Due.due("P8 now", y.end(2, 0), 2);
        Due.due("P9 now", y.parts(2), 2);
        Due.due("P10 now", y.part(2, 0), 1);
        Due.due("P11 now", y.crossings(2), 3);
    }

    private static void wrong(RopeDancers x) {
        for (int d : WRONG) {
            Due.due(x, "P6 upper " + d, x.upper(d), -100000, 1);
            Due.due(x, "P7 lower " + d, x.lower(d), -1, 1);
            Due.due(x, "P8 end " + d, x.end(d, 0), -1, 1);
            Due.due(x, "P9 parts " + d, x.parts(d), -1, 1);
            Due.due(x, "P10 part " + d, x.part(d, 0), -1, 1);
            Due.due(x, "P11 crossings " + d, x.crossings(d), -1, 1);
        }
        for (int corner : new int[] {-1, 4, Integer.MIN_VALUE, Integer.MAX_VALUE}) {
            Due.due(x, "P8 end at " + corner, x.end(0, corner), -1, 1);
        }
    }

    /** As far up as a TANGLE can come. */
    private static void great() {
        RopeDancers x = Due.with("hall slips 0;dance a tttttttttttt;dance b tttttttttttt");
        int[] sums = {12, 12};
        for (int i = 0; i < 13; i++) {
            x.join(i % 2, 1 - i % 2);
            sums[i % 2] += sums[1 - i % 2];
        }
        Due.due("P6 great", x.upper(0), sums[0]);
        Due.due("P6 great", x.upper(1), sums[1]);
        x.call(0, 2);
        Due.due("P6 great, turned", x.upper(0), -1);
        Due.due("P7 great, turned", x.lower(0), sums[0]);
        Due.due("P9 great, turned", x.parts(0), 2);
        Due.due("P10 great, turned", x.part(0, 1), sums[0]);
        Due.due("P11 great, turned", x.crossings(0), sums[0]);
    }
}
