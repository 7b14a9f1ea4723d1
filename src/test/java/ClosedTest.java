/** Promises 34 to 40: knot, rings, colours, beside, alike, mirrored, kinds. */
final class ClosedTest {
    private static final int[] WRONG = {-1, 5, Integer.MIN_VALUE, Integer.MAX_VALUE};

    private ClosedTest() {
    }

    /** 2 by 1, -1 by 2, 0 by 1, 1 by 0, 8 by 5. */
    private static RopeDancers fresh() {
        return Due.with("hall slips 0;dance a tt;dance b ttr;dance c tu;dance d r;dance e ttrtttrtt");
    }

    public static void main(String[] args) {
        knots(fresh());
        colours(fresh());
        beside(fresh());
        fives();
        sevens();
        threes();
        fewest(fresh());
        great();
        kinds(fresh());
        wrong(fresh());
        Due.end("ClosedTest");
    }

    private static void knots(RopeDancers x) {
        int[] across = {2, 1, 0, 1, 8};
        int[] down = {1, 2, 1, 0, 5};
        for (int d = 0; d < 5; d++) {
            Due.due(x, "P34 knot across " + d, x.knot(d, false), across[d], 0);
            Due.due(x, "P34 knot down " + d, x.knot(d, true), down[d], 0);
            Due.due(x, "P35 rings across " + d, x.rings(d, false), across[d] % 2 == 0 ? 2 : 1, 0);
            Due.due(x, "P35 rings down " + d, x.rings(d, true), down[d] % 2 == 0 ? 2 : 1, 0);
        }
    }

    private static void colours(RopeDancers x) {
        Due.due(x, "P36 by 2 of 2", x.colours(0, false, 2), 4, 0);
        Due.due("P36 by 3 of 2", x.colours(0, false, 3), 3);
        Due.due("P36 by 99 of 1", x.colours(0, true, 99), 99);
        Due.due("P36 by 3 of 0", x.colours(2, false, 3), 9);
        Due.due("P36 by 99 of 0", x.colours(3, true, 99), 99 * 99);
        Due.due("P36 by 6 of 8", x.colours(4, false, 6), 12);
        Due.due("P36 by 12 of 8", x.colours(4, false, 12), 48);
        Due.due("P36 by 10 of 5", x.colours(4, true, 10), 50);
        Due.due("P36 by 6 of less 1", x.colours(1, false, 6), 6);
        for (int m : new int[] {1, 100, 0, -2, Integer.MIN_VALUE, Integer.MAX_VALUE}) {
            Due.due(x, "P36 by " + m, x.colours(0, false, m), -1, 2);
            Due.due(x, "P36 1 ahead of 2", x.colours(5, true, m), -1, 1);
        }
    }

    private static void beside(RopeDancers x) {
        int[] over = {2, -1, 0, 1, 8};
        int[] under = {1, 2, 1, 0, 5};
        for (int d = 0; d < 5; d++) {
            for (int other = 0; other < 5; other++) {
                int sum = Math.abs(over[d] * under[other] + over[other] * under[d]);
                Due.due(x, "P37 beside " + d + " " + other, x.beside(d, other), sum, 0);
            }
        }
        Due.due("P37 a known one", x.beside(0, 1), 3);
        Due.due("P37 itself", x.beside(0, 0), 4);
    }

    private static void alike(RopeDancers x, int[][] alike, int[][] mirrored) {
        for (int d = 0; d < alike.length; d++) {
            for (int other = 0; other < alike.length; other++) {
                Due.due(x, "P38 alike " + d + " " + other, x.alike(d, other), alike[d][other], 0);
                Due.due(x, "P39 mirrored " + d + " " + other, x.mirrored(d, other), mirrored[d][other], 0);
            }
        }
    }

    private static void fives() {
        // 5 by 2, 5 by 3, 5 by 1, -5 by 1, 5 by 4: 2 times 3 less 1 is 5, 1 and 4 are less 1 apart by 5
        RopeDancers x = Due.with("hall slips 0;dance a ttrttt;dance b tttrtt;dance c ttttt;dance d uuuuu;dance e ttttttrt");
        x.reset(4);
        // 1 less 1 by 5 as 1 + (-1 by 5), turned from 5
        for (int i = 0; i < 5; i++) {
            x.call(4, 0);
        }
        x.call(4, 2);
        x.call(4, 0);
        x.call(4, 2);
        x.flip(4);
        Due.due("5 by 4", x.upper(4) * 10 + x.lower(4), 54);
        int[][] alike = {{1, 1, 0, 0, 0}, {1, 1, 0, 0, 0}, {0, 0, 1, 0, 0}, {0, 0, 0, 1, 1}, {0, 0, 0, 1, 1}};
        int[][] mirrored = {{1, 1, 0, 0, 0}, {1, 1, 0, 0, 0}, {0, 0, 0, 1, 1}, {0, 0, 1, 0, 0}, {0, 0, 1, 0, 0}};
        alike(x, alike, mirrored);
    }

    private static void sevens() {
        // 7 by 2, 7 by 4 (2 times 4 less 1 is 7), 7 by 5 (less 2), -7 by 2 (5), 7 by 3 (5 times 3 less 1 is 14)
        RopeDancers x = Due.with("hall slips 0;dance a ttrtttt;dance b ttttrtt;dance c ttruurt;dance d ttruuu;dance e uuurtt");
        int[] under = {2, 4, 5, 2, 3};
        for (int d = 0; d < 5; d++) {
            Due.due("7 by .. " + d, x.upper(d) * 10 + x.lower(d), d == 3 ? -68 : 70 + under[d]);
        }
        int[][] alike = {{1, 1, 0, 0, 0}, {1, 1, 0, 0, 0}, {0, 0, 1, 1, 1}, {0, 0, 1, 1, 1}, {0, 0, 1, 1, 1}};
        int[][] mirrored = {{0, 0, 1, 1, 1}, {0, 0, 1, 1, 1}, {1, 1, 0, 0, 0}, {1, 1, 0, 0, 0}, {1, 1, 0, 0, 0}};
        alike(x, alike, mirrored);
    }

    private static void threes() {
        // 3 by 1, 3 by 2, -3 by 2 (1), 4 by 1, 3 by 4 (1)
        RopeDancers x = Due.with("hall slips 0;dance a ttt;dance b ttrtt;dance c ttru;dance d tttt;dance e ttttrt");
        int[][] alike = {{1, 0, 1, 0, 1}, {0, 1, 0, 0, 0}, {1, 0, 1, 0, 1}, {0, 0, 0, 1, 0}, {1, 0, 1, 0, 1}};
        int[][] mirrored = {{0, 1, 0, 0, 0}, {1, 0, 1, 0, 1}, {0, 1, 0, 0, 0}, {0, 0, 0, 0, 0}, {0, 1, 0, 0, 0}};
        alike(x, alike, mirrored);
    }

    private static void fewest(RopeDancers x) {
        // by 0 or 1 all are: 0 by 1; -1 by 2, 1 by 0; by 2, too, as 1 is the only one
        int[][] alike = {{1, 0, 0, 0, 0}, {0, 1, 0, 1, 0}, {0, 0, 1, 0, 0}, {0, 1, 0, 1, 0}, {0, 0, 0, 0, 1}};
        int[][] mirrored = {{1, 0, 0, 0, 0}, {0, 1, 0, 1, 0}, {0, 0, 1, 0, 0}, {0, 1, 0, 1, 0}, {0, 0, 0, 0, 0}};
        alike(x, alike, mirrored);
        RopeDancers y = Due.with("hall slips 0;dance a tu;dance b ut;dance c uu;dance d tt;dance e t");
        Due.due("P38 0 by 1 twice", y.alike(0, 1), 1);
        Due.due("P39 0 by 1 twice", y.mirrored(0, 1), 1);
        Due.due("P38 -2 and 2", y.alike(2, 3), 1);
        Due.due("P39 -2 and 2", y.mirrored(2, 3), 1);
        Due.due("P38 1 and 0", y.alike(0, 4), 0);
        Due.due("P39 1 and 0", y.mirrored(4, 0), 0);
    }

    private static void great() {
        RopeDancers x = ComeTest.at9999();
        Due.due("P34 great", x.knot(0, false), 9999);
        Due.due("P35 great", x.rings(0, false), 1);
        Due.due("P36 great", x.colours(0, false, 99), 99 * 99);
        Due.due("P37 great", x.beside(0, 0), 2 * 9999);
        Due.due("P38 great", x.alike(0, 0), 1);
        Due.due("P39 great", x.mirrored(0, 0), 0);
        x.call(0, 2);
        x.call(0, 0);
        x.call(0, 2);
        Due.due("-9999 by 9998", x.lower(0), 9998);
        Due.due("P37 great", x.beside(0, 0), 2 * 9999 * 9998);
        Due.due("P38 great", x.alike(0, 0), 1);
        Due.due("P36 great", x.colours(0, true, 8), 16);
    }

    private static void kinds(RopeDancers x) {
        int[] kinds = {1, 1, 2, 2, 3, 2, 4, 4, 4, 3, 6, 4, 7, 4, 6, 6, 9, 4, 10, 6, 8, 6, 12, 8, 11, 7, 10, 8, 15, 6};
        int[] once = {1, 1, 1, 1, 2, 1, 2, 2, 2, 2, 3, 2, 4, 2, 3, 3, 5, 2, 5, 3, 4, 3, 6, 4, 6, 4, 5, 4, 8, 3};
        for (int k = 1; k <= 30; k++) {
            Due.due(x, "P40 kinds " + k, x.kinds(k, false), kinds[k - 1], 0);
            Due.due(x, "P40 kinds in a mirror once " + k, x.kinds(k, true), once[k - 1], 0);
        }
        Due.due("P40 kinds 200", x.kinds(200, false), 44);
        Due.due("P40 kinds 200", x.kinds(200, true), 22);
        RopeDancers y = new RopeDancers();
        Due.due(y, "P40 no HALL", y.kinds(3, false), -1, 1);
        for (int k : new int[] {0, 201, -3, Integer.MIN_VALUE, Integer.MAX_VALUE}) {
            Due.due(x, "P40 kinds " + k, x.kinds(k, false), -1, 2);
            Due.due(x, "P40 kinds " + k, x.kinds(k, true), -1, 2);
            Due.due(y, "P40 no HALL", y.kinds(k, true), -1, 1);
        }
    }

    private static void wrong(RopeDancers x) {
        for (int d : WRONG) {
            for (boolean down : new boolean[] {false, true}) {
                Due.due(x, "P34 knot " + d, x.knot(d, down), -1, 1);
                Due.due(x, "P35 rings " + d, x.rings(d, down), -1, 1);
                Due.due(x, "P36 colours " + d, x.colours(d, down, 3), -1, 1);
            }
            Due.due(x, "P37 beside " + d, x.beside(d, 0), -1, 1);
            Due.due(x, "P37 beside to " + d, x.beside(0, d), -1, 1);
            Due.due(x, "P38 alike " + d, x.alike(d, 0), -1, 1);
            Due.due(x, "P38 alike to " + d, x.alike(0, d), -1, 1);
            Due.due(x, "P39 mirrored " + d, x.mirrored(d, 0), -1, 1);
            Due.due(x, "P39 mirrored to " + d, x.mirrored(0, d), -1, 1);
        }
    }
}
