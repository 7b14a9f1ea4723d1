/** Promises 12 to 20: figures, figure, upperAfter, lowerAfter, mostAt, goesFirst, again, trace, sameDance. */
final class RowTest {
    private static final int[] WRONG = {-1, 5, Integer.MIN_VALUE, Integer.MAX_VALUE};

    private RowTest() {
    }

    private static RopeDancers fresh() {
        return Due.with("hall slips 90;dance a ttrtttrtt;dance b tur;dance c t;dance d rtr;dance e uuuuuuuuuuuu;unsure a 0");
    }

    public static void main(String[] args) {
        figures(fresh());
        after(fresh());
        most(fresh());
        goes(fresh());
        again();
        traces();
        same();
        rowsStay();
        wrong(fresh());
        Due.end("RowTest");
    }

    private static void figures(RopeDancers x) {
        int[] counts = {9, 3, 1, 3, 12};
        for (int d = 0; d < 5; d++) {
            Due.due(x, "P12 figures " + d, x.figures(d), counts[d], 0);
        }
        int[] row = {0, 0, 2, 0, 0, 0, 2, 0, 0};
        for (int i = 0; i < row.length; i++) {
            Due.due(x, "P13 figure " + i, x.figure(0, i), row[i], 0);
        }
        Due.due("P13 untwist", x.figure(1, 1), 1);
        Due.due("P13 the last of twelve", x.figure(4, 11), 1);
        Due.due(x, "P13 none", x.figure(0, 9), -1, 1);
        Due.due(x, "P13 none", x.figure(0, -1), -1, 1);
        Due.due(x, "P13 none", x.figure(4, 12), -1, 1);
        Due.due(x, "P13 none", x.figure(2, Integer.MAX_VALUE), -1, 1);
    }

    private static void after(RopeDancers x) {
        int[] over = {0, 1, 2, -1, 1, 3, 5, -2, 3, 8};
        int[] under = {1, 1, 1, 2, 2, 2, 2, 5, 5, 5};
        for (int n = 0; n < over.length; n++) {
            Due.due(x, "P14 upperAfter " + n, x.upperAfter(0, n), over[n], 0);
            Due.due(x, "P15 lowerAfter " + n, x.lowerAfter(0, n), under[n], 0);
        }
        for (int n : new int[] {-1, 10, Integer.MIN_VALUE, Integer.MAX_VALUE}) {
            Due.due(x, "P14 upperAfter " + n, x.upperAfter(0, n), -100000, 2);
            Due.due(x, "P15 lowerAfter " + n, x.lowerAfter(0, n), -1, 2);
            Due.due(x, "P14 1 ahead of 2", x.upperAfter(-1, n), -100000, 1);
            Due.due(x, "P15 1 ahead of 2", x.lowerAfter(-1, n), -1, 1);
        }
        Due.due("P14 1 by 0", x.upperAfter(3, 2), 1);
        Due.due("P15 1 by 0", x.lowerAfter(3, 2), 0);
    }

    private static void most(RopeDancers x) {
        Due.due(x, "P16 mostAt the end", x.mostAt(0), 9, 0);
        Due.due("P16 mostAt between", x.mostAt(1), 1);
        Due.due("P16 mostAt none at all", x.mostAt(3), 0);
        Due.due("P16 mostAt the end", x.mostAt(4), 12);
        RopeDancers y = Due.with("hall slips 0;dance a ttrt;dance b ttuuuutt");
        Due.due("P16 mostAt, first of like ones", y.mostAt(0), 2);
        Due.due("P16 mostAt, first of like ones", y.mostAt(1), 2);
    }

    private static void goes(RopeDancers x) {
        // 0/1 1/1 2/1 -1/2 1/2 3/2 ..: nw to ne, se, ne, sw
        Due.due(x, "P17 at once", x.goesFirst(0, 0, 1), 0, 0);
        Due.due("P17 crossed", x.goesFirst(0, 0, 3), 1);
        Due.due("P17 down", x.goesFirst(0, 0, 2), 3);
        Due.due("P17 down", x.goesFirst(0, 3, 1), 3);
        Due.due("P17 crossed", x.goesFirst(0, 1, 2), 1);
        Due.due("P17 behind the last", x.goesFirst(2, 2, 1), 1);
        Due.due(x, "P17 never", x.goesFirst(2, 0, 2), -2, 0);
        Due.due("P17 never", x.goesFirst(3, 0, 3), -2);
        for (int corner = 0; corner < 4; corner++) {
            Due.due(x, "P17 alike", x.goesFirst(0, corner, corner), -1, 1);
        }
        for (int corner : new int[] {-1, 4, Integer.MIN_VALUE, Integer.MAX_VALUE}) {
            Due.due(x, "P17 no corner", x.goesFirst(0, corner, 0), -1, 1);
            Due.due(x, "P17 no corner", x.goesFirst(0, 0, corner), -1, 1);
        }
    }

    private static void again() {
        // by tr 0/1 -1/1 -> 1/0 .. : thrice; a round that moves it ever further never ends
        RopeDancers x = Due.with("hall slips 0;dance a tr;dance b r;dance c tu;dance d t;dance e ttrt");
        Due.due(x, "P18 thrice", x.again(0), 3, 0);
        Due.due("P18 twice", x.again(1), 2);
        Due.due("P18 once", x.again(2), 1);
        Due.due(x, "P18 never", x.again(3), -2, 0);
        Due.due("P18 never", x.again(4), -2);
        // too great in some rounds; k rounds of ttr lead to -k by k + 1
        RopeDancers y = Due.with("hall slips 0;dance a tttttr;dance b rtr;dance c ttr;dance d urt;dance e rur");
        Due.due("P18 too great", y.again(0), -2);
        Due.due("P18 through 1 by 0", y.again(1), 1);
        Due.due("P18 not in sixty", y.again(2), -2);
        Due.due("P18 below 0", y.again(3), 2);
        Due.due("P18 through 1 by 0", y.again(4), 1);
    }

    private static void traces() {
        // t: 1 1 0 1; r: 0 -1 1 0; tr: 0 -1 1 1; tttr: 0 -1 1 3
        RopeDancers x = Due.with("hall slips 0;dance a t;dance b r;dance c tr;dance d tttr;dance e tttrtttr");
        Due.due(x, "P19 a twist", x.trace(0), 2, 0);
        Due.due("P19 a turn", x.trace(1), 0);
        Due.due("P19 of order 3", x.trace(2), 1);
        Due.due("P19 3", x.trace(3), 3);
        Due.due("P19 3 times 3 less 2", x.trace(4), 7);
        RopeDancers y = Due.with("hall slips 0;dance a u;dance b uuuur;dance c rtrt;dance d tttruur;dance e uuutttr");
        Due.due("P19 an untwist", y.trace(0), 2);
        Due.due("P19 sign left away", y.trace(1), 4);
        Due.due("P19 order 3", y.trace(2), 1);
        // tttr: 0 -1 1 3; uur: 0 -1 1 -2; the second by the first: -1 -3 -2 -7
        Due.due("P19 of both", y.trace(3), 8);
        Due.due("P19 taken away", y.trace(4), 0);
    }

    private static void same() {
        RopeDancers x = Due.with("hall slips 0;dance a rr;dance b tu;dance c trtrtr;dance d t;dance e ttu");
        int[][] alike = {{1, 1, 1, 0, 0}, {1, 1, 1, 0, 0}, {1, 1, 1, 0, 0}, {0, 0, 0, 1, 1}, {0, 0, 0, 1, 1}};
        for (int d = 0; d < 5; d++) {
            for (int other = 0; other < 5; other++) {
                Due.due(x, "P20 sameDance " + d + " " + other, x.sameDance(d, other), alike[d][other], 0);
            }
        }
        // r and rt lead from 0 by 1 to the same one, but not from others
        RopeDancers y = Due.with("hall slips 0;dance a r;dance b rt;dance c rtr;dance d uru;dance e rrr");
        Due.due("P20 not from all", y.sameDance(0, 1), 0);
        Due.due("P20 not from all", y.sameDance(1, 0), 0);
        Due.due("P20 rtr is uru", y.sameDance(2, 3), 1);
        Due.due("P20 rrr is r", y.sameDance(4, 0), 1);
        RopeDancers z = Due.with("hall slips 0;dance a t;dance b u;dance c tr;dance d ur;dance e rt");
        for (int d = 0; d < 5; d++) {
            for (int other = 0; other < 5; other++) {
                Due.due("P20 none like another " + d + " " + other, z.sameDance(d, other), d == other ? 1 : 0);
            }
        }
    }

    /** What a ROW is doesn't hang on the TANGLE now, nor on SLIPS or unsure figures. */
    private static void rowsStay() {
        RopeDancers x = Due.with("hall slips 100;dance a ttrt;dance b tr;unsure a 0;unsure b 1");
        x.call(0, 0);
        x.call(1, 2);
        Due.due("P14 as told", x.upperAfter(0, 4), 1);
        Due.due("P15 as told", x.lowerAfter(0, 4), 2);
        Due.due("P16 as told", x.mostAt(0), 2);
        Due.due("P17 as told", x.goesFirst(0, 0, 2), 3);
        Due.due("P18 as told", x.again(1), 3);
        Due.due("P19 as told", x.trace(1), 1);
    }

    private static void wrong(RopeDancers x) {
        for (int d : WRONG) {
            Due.due(x, "P12 figures " + d, x.figures(d), -1, 1);
            Due.due(x, "P13 figure " + d, x.figure(d, 0), -1, 1);
            Due.due(x, "P14 upperAfter " + d, x.upperAfter(d, 0), -100000, 1);
            Due.due(x, "P15 lowerAfter " + d, x.lowerAfter(d, 0), -1, 1);
            Due.due(x, "P16 mostAt " + d, x.mostAt(d), -1, 1);
            Due.due(x, "P17 goesFirst " + d, x.goesFirst(d, 0, 1), -1, 1);
            Due.due(x, "P18 again " + d, x.again(d), -1, 1);
            Due.due(x, "P19 trace " + d, x.trace(d), -1, 1);
            Due.due(x, "P20 sameDance " + d, x.sameDance(d, 0), -1, 1);
            Due.due(x, "P20 sameDance to " + d, x.sameDance(0, d), -1, 1);
        }
    }
}
