/** Promises 48 to 52: callers, callsBy, bows, rests, rest. */
final class TurnsTest {
    private TurnsTest() {
    }

    /** 0 by 1, 1 by 1, -1 by 1, 1 by 0, 2 by 1. */
    private static RopeDancers fresh() {
        return Due.with("hall slips 0;dance a tu;dance b t;dance c u;dance d r;dance e tt");
    }

    public static void main(String[] args) {
        RopeDancers x = fresh();
        game(x, 0, new int[] {0, 0, 2, 2, 2, 2, 2, 2, 2}, new int[] {-2, 0, 0, 0, 0, 0, 0, 0, 0});
        game(x, 1, new int[] {0, 1, 1, 1, 1, 1, 1, 1, 1}, new int[] {-2, 1, 1, 1, 1, 1, 1, 1, 1});
        game(x, 2, new int[] {0, 1, 1, 1, 1, 1, 1, 1, 1}, new int[] {-2, 0, 0, 0, 0, 0, 0, 0, 0});
        game(x, 3, new int[] {0, 1, 1, 1, 1, 1, 1, 1, 1}, new int[] {-2, 2, 2, 2, 2, 2, 2, 2, 2});
        game(x, 4, new int[9], new int[] {-2, 0, 0, 0, 0, 0, 0, 0, 0});
        // -2 by 1: a twist gives the other one -1 by 1
        RopeDancers y = Due.with("hall slips 0;dance a uu;dance b ttrt");
        game(y, 0, new int[9], new int[] {-2, 0, 1, 1, 1, 1, 1, 1, 1});
        game(y, 1, new int[9], new int[] {-2, 0, 0, 0, 0, 0, 0, 0, 0});
        // it is of the TANGLE now, and at 9,999 a TWIST can't be called
        y.call(0, 0);
        game(y, 0, new int[] {0, 1, 1, 1, 1, 1, 1, 1, 1}, new int[] {-2, 0, 0, 0, 0, 0, 0, 0, 0});
        Due.due("P48 leaves it as it is", y.upper(0), -1);
        RopeDancers z = ComeTest.at9999();
        game(z, 0, new int[9], new int[] {-2, 1, 1, 1, 1, 1, 1, 1, 1});
        z.flip(0);
        game(z, 0, new int[9], new int[] {-2, 0, 0, 0, 0, 0, 0, 0, 0});
        wrongTurns(fresh());
        bowing(fresh());
        rests(fresh());
        Due.end("TurnsTest");
    }

    private static void game(RopeDancers x, int d, int[] wins, int[] calls) {
        for (int n = 0; n <= 8; n++) {
            Due.due(x, "P48 callers " + d + " " + n, x.callers(d, n), wins[n], 0);
            Due.due(x, "P49 callsBy " + d + " " + n, x.callsBy(d, n), calls[n], 0);
        }
    }

    private static void wrongTurns(RopeDancers x) {
        for (int n : new int[] {-1, 9, Integer.MIN_VALUE, Integer.MAX_VALUE}) {
            Due.due(x, "P48 callers by " + n, x.callers(0, n), -1, 2);
            Due.due(x, "P49 callsBy by " + n, x.callsBy(0, n), -1, 2);
            Due.due(x, "P48 1 ahead of 2", x.callers(5, n), -1, 1);
            Due.due(x, "P49 1 ahead of 2", x.callsBy(5, n), -1, 1);
        }
        for (int d : new int[] {-1, 5, Integer.MIN_VALUE, Integer.MAX_VALUE}) {
            Due.due(x, "P48 callers " + d, x.callers(d, 3), -1, 1);
            Due.due(x, "P49 callsBy " + d, x.callsBy(d, 3), -1, 1);
        }
    }

    private static void bowing(RopeDancers x) {
        RopeDancers y = new RopeDancers();
        for (int pride = 0; pride <= 9; pride++) {
            Due.due(x, "P50 both bow", x.bows(pride, true, true, false), 1, 0);
            Due.due(x, "P50 both bow", x.bows(pride, true, true, true), 1, 0);
            Due.due(x, "P50 both stand", x.bows(pride, false, false, false), -pride, 0);
            Due.due(x, "P50 both stand", x.bows(pride, false, false, true), -pride, 0);
            Due.due(x, "P50 the one bows", x.bows(pride, true, false, false), 0, 0);
            Due.due(x, "P50 the one bows", x.bows(pride, true, false, true), 2, 0);
            Due.due(x, "P50 the other bows", x.bows(pride, false, true, false), 2, 0);
            Due.due(x, "P50 the other bows", x.bows(pride, false, true, true), 0, 0);
            Due.due(y, "P50 no HALL", y.bows(pride, true, true, true), -100, 1);
        }
        for (int pride : new int[] {-1, 10, Integer.MIN_VALUE, Integer.MAX_VALUE}) {
            Due.due(x, "P50 pride " + pride, x.bows(pride, true, true, false), -100, 2);
            Due.due(y, "P50 no HALL", y.bows(pride, false, false, false), -100, 1);
        }
    }

    private static void rests(RopeDancers x) {
        RopeDancers y = new RopeDancers();
        // by pride 0 both may stand as well: who bows has 0, too
        Due.due(x, "P51 rests by 0", x.rests(0), 3, 0);
        Due.due(x, "P52 rest by 0", x.rest(0), 0, 0);
        for (int pride = 1; pride <= 9; pride++) {
            Due.due(x, "P51 rests by " + pride, x.rests(pride), 2, 0);
            Due.due(x, "P52 rest by " + pride, x.rest(pride), 1, 0);
        }
        for (int pride : new int[] {-1, 10, Integer.MIN_VALUE, Integer.MAX_VALUE}) {
            Due.due(x, "P51 pride " + pride, x.rests(pride), -1, 2);
            Due.due(x, "P52 pride " + pride, x.rest(pride), -1, 2);
            Due.due(y, "P51 no HALL", y.rests(pride), -1, 1);
            Due.due(y, "P52 no HALL", y.rest(pride), -1, 1);
        }
        Due.due(y, "P51 no HALL", y.rests(3), -1, 1);
        Due.due(y, "P52 no HALL", y.rest(3), -1, 1);
    }
}
