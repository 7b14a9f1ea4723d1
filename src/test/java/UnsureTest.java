/** Promises 41 to 47: fits, fitAt, could, surely, ask, askLeaves, judge. */
final class UnsureTest {
    private UnsureTest() {
    }

    public static void main(String[] args) {
        noHall();
        // {sets}, could, surely, ask, askLeaves, judge
        check("dance a tt", new int[] {0}, 0, 0, -2, -2, -2);
        check("dance a tt;seen a 2 nw ne", new int[] {0}, 0, 0, -2, -2, -2);
        check("dance a tt;seen a 2 nw se", new int[] {}, 0, 0, -2, -2, 0);
        check("dance a tt;unsure a 0;unsure a 1;seen a 2 nw ne", new int[] {0, 3}, 3, 0, 0, 1, -2);
        check("dance a tt;unsure a 0;unsure a 1;seen a 2 nw se", new int[] {1, 2}, 3, 0, 0, 1, 0);
        check("dance a tt;unsure a 0;unsure a 1;seen a 2 nw sw", new int[] {}, 0, 0, -2, -2, 0);
        check("dance a tt;unsure a 0;seen a 2 nw se", new int[] {1}, 1, 1, 0, 1, 0);
        // of the first nothing is learnt: it was danced for sure, or for sure it wasn't
        check("dance c t;dance a t;unsure c 0;unsure a 0;seen c 1 nw se", new int[] {0, 2}, 2, 0, 1, 1, -2);
        check("dance c t;dance a t;unsure c 0;unsure a 0;seen c 1 sw se", new int[] {1, 3}, 3, 1, 1, 1, 0);
        // bits by the order told, not by places
        check("dance a trt;unsure a 2;unsure a 0;seen a 1 ne nw", new int[] {2, 3}, 3, 2, 0, 1, 0);
        check("dance a trt;dance b t;unsure b 0;unsure a 0;unsure a 2;seen a 3 nw ne;seen b 1 nw ne", new int[] {1}, 1, 1, 0, 1, 1);
        // a number counts figures as told, though one of them wasn't danced
        check("dance a ttt;unsure a 0;seen a 1 nw ne;seen a 2 nw se;seen a 3 nw ne", new int[] {1}, 1, 1, 0, 1, 0);
        check("dance a ttt;unsure a 2;seen a 2 nw ne;seen a 3 nw ne", new int[] {1}, 1, 1, 0, 1, 1);
        check("dance a ttt;unsure a 0;unsure a 1;unsure a 2;seen a 3 nw ne", new int[] {1, 2, 4, 7}, 7, 0, 0, 2, 0);
        check("dance a ttr;unsure a 0;unsure a 1;unsure a 2;seen a 3 nw ne", new int[] {4, 7}, 7, 4, 0, 1, 0);
        check("dance a trt;unsure a 0;unsure a 1;unsure a 2;seen a 3 nw ne", new int[] {0, 2, 7}, 7, 0, 0, 2, -2);
        check("dance a trt;unsure a 0;unsure a 1;unsure a 2;seen a 3 nw sw", new int[] {1, 5}, 5, 1, 2, 1, 0);
        check("dance a trr;unsure a 0;unsure a 1;unsure a 2;seen a 3 nw ne", new int[] {1, 7}, 7, 1, 1, 1, 0);
        check("dance a trr;unsure a 0;unsure a 1;unsure a 2;seen a 3 nw se", new int[] {0, 2, 4, 6}, 6, 0, 1, 2, -2);
        // all of twelve figures, the last unsure
        check("dance a tttttttttttt;unsure a 11;seen a 11 nw se;seen a 12 nw se", new int[] {1}, 1, 1, 0, 1, 1);
        check("dance a t;dance b u;dance c r;dance d tt;unsure a 0;unsure b 0;unsure c 0;unsure d 0",
            new int[] {0, 1, 2, 3, 4, 5, 6, 7, 8, 9, 10, 11, 12, 13, 14, 15}, 15, 0, 0, 8, -2);
        // the first seen as told, not by number
        check("dance a tt;dance b u;seen a 2 nw ne;seen b 1 nw se;seen a 1 sw ne;seen b 0 nw se;seen a 0 nw se",
            new int[] {}, 0, 0, -2, -2, 3);
        stays();
        Due.end("UnsureTest");
    }

    private static void noHall() {
        RopeDancers x = new RopeDancers();
        Due.due(x, "P41 no HALL", x.fits(), -1, 1);
        Due.due(x, "P42 no HALL", x.fitAt(0), -1, 1);
        Due.due(x, "P43 no HALL", x.could(), -1, 1);
        Due.due(x, "P44 no HALL", x.surely(), -1, 1);
        Due.due(x, "P45 no HALL", x.ask(), -1, 1);
        Due.due(x, "P46 no HALL", x.askLeaves(), -1, 1);
        Due.due(x, "P47 no HALL", x.judge(), -1, 1);
    }

    private static void check(String lines, int[] sets, int could, int surely, int ask, int leaves, int judge) {
        RopeDancers x = Due.with("hall slips 30;" + lines);
        Due.due(x, "P41 fits of " + lines, x.fits(), sets.length, 0);
        for (int i = 0; i < sets.length; i++) {
            Due.due(x, "P42 fitAt " + i + " of " + lines, x.fitAt(i), sets[i], 0);
        }
        for (int i : new int[] {sets.length, -1, Integer.MIN_VALUE, Integer.MAX_VALUE}) {
            Due.due(x, "P42 fitAt " + i + " of " + lines, x.fitAt(i), -1, 1);
        }
        Due.due(x, "P43 could of " + lines, x.could(), could, 0);
        x.upper(-1);
        Due.due(x, "P44 surely of " + lines, x.surely(), surely, 0);
        x.upper(-1);
        Due.due(x, "P45 ask of " + lines, x.ask(), ask, 0);
        x.upper(-1);
        Due.due(x, "P46 askLeaves of " + lines, x.askLeaves(), leaves, 0);
        x.upper(-1);
        Due.due(x, "P47 judge of " + lines, x.judge(), judge, 0);
    }

    /** What was seen is of ROWS, whatever a TANGLE is now. */
    private static void stays() {
        RopeDancers x = Due.with("hall slips 100;dance a tt;unsure a 1;seen a 2 nw ne");
        x.call(0, 0);
        Due.due("P41 by rows", x.fits(), 1);
        Due.due("P42 by rows", x.fitAt(0), 0);
        Due.due("P47 by rows", x.judge(), -2);
        Due.due("P6 as it was", x.upper(0), 3);
    }
}
