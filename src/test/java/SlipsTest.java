/** Promises 53 to 57: odds, untied, mean, drawnUpper, drawnLower. */
final class SlipsTest {
    private static final String ROWS = ";dance a ttrt;dance b tttttttttttt;dance c ttrtttrt;dance d tur";
    private static final int[] WRONG = {-1, 4, Integer.MIN_VALUE, Integer.MAX_VALUE};

    private SlipsTest() {
    }

    public static void main(String[] args) {
        certain();
        quarter();
        half();
        many();
        wrong();
        draws();
        wrongDraws();
        Due.end("SlipsTest");
    }

    private static RopeDancers with(int slips) {
        return Due.with("hall slips " + slips + ROWS);
    }

    private static void odds(RopeDancers x, int d, int n, int corner, int to, long upper, long lower) {
        String call = "P53 odds " + d + " " + n + " " + corner + " " + to;
        Due.due(x, call, x.odds(d, n, corner, to, false), upper, 0);
        Due.due(x, call + " lower", x.odds(d, n, corner, to, true), lower, 0);
    }

    private static void untied(RopeDancers x, int d, int n, long upper, long lower) {
        Due.due(x, "P54 untied " + d + " " + n, x.untied(d, n, false), upper, 0);
        Due.due(x, "P54 untied " + d + " " + n + " lower", x.untied(d, n, true), lower, 0);
    }

    private static void mean(RopeDancers x, int d, int n, long upper, long lower) {
        Due.due(x, "P55 mean " + d + " " + n, x.mean(d, n, false), upper, 0);
        Due.due(x, "P55 mean " + d + " " + n + " lower", x.mean(d, n, true), lower, 0);
    }

    private static void certain() {
        // no slips: 1 by 2 behind all of a
        RopeDancers x = with(0);
        odds(x, 0, 4, 0, 2, 1, 1);
        odds(x, 0, 4, 0, 1, 0, 1);
        odds(x, 0, 3, 1, 3, 1, 1);
        odds(x, 0, 0, 0, 1, 1, 1);
        untied(x, 0, 4, 0, 1);
        untied(x, 3, 2, 1, 1);
        untied(x, 3, 3, 0, 1);
        mean(x, 0, 4, 2, 1);
        mean(x, 1, 8, 8, 1);
        mean(x, 0, 0, 0, 1);
        // all slip
        RopeDancers y = with(100);
        odds(y, 0, 4, 0, 2, 0, 1);
        odds(y, 2, 8, 3, 2, 1, 1);
        untied(y, 2, 8, 1, 1);
        mean(y, 2, 8, 0, 1);
    }

    private static void quarter() {
        RopeDancers x = with(25);
        odds(x, 0, 1, 0, 3, 3, 4);
        odds(x, 0, 1, 0, 1, 1, 4);
        odds(x, 0, 2, 0, 3, 3, 8);
        odds(x, 0, 4, 0, 1, 41, 128);
        odds(x, 0, 4, 3, 2, 41, 128);
        untied(x, 0, 1, 1, 4);
        untied(x, 0, 4, 55, 256);
        mean(x, 0, 1, 3, 4);
        mean(x, 0, 4, 189, 128);
        // it is from 0 by 1 on, whatever it is now
        x.call(0, 2);
        mean(x, 0, 4, 189, 128);
        untied(x, 0, 0, 1, 1);
    }

    private static void half() {
        RopeDancers x = with(50);
        odds(x, 0, 4, 0, 1, 3, 8);
        untied(x, 0, 4, 3, 16);
        mean(x, 0, 4, 9, 8);
        // of eight twists half, and 1 of 256 leaves it
        mean(x, 1, 8, 4, 1);
        untied(x, 1, 8, 1, 256);
        odds(x, 1, 8, 0, 3, 1, 2);
    }

    private static void many() {
        RopeDancers x = with(37);
        mean(x, 2, 8, 29431500700203L, 12500000000000L);
        // all of eight twists slip by 37 to the eighth in 100 to the eighth
        untied(x, 1, 8, 3512479453921L, 10000000000000000L);
        RopeDancers y = with(99);
        untied(y, 1, 8, 9227446944279201L, 10000000000000000L);
        mean(y, 1, 8, 2, 25);
        RopeDancers z = with(1);
        mean(z, 1, 8, 198, 25);
        odds(z, 1, 1, 2, 3, 1, 100);
        odds(z, 1, 1, 2, 1, 99, 100);
    }

    private static void wrong() {
        RopeDancers x = with(50);
        RopeDancers y = new RopeDancers();
        for (boolean lower : new boolean[] {false, true}) {
            for (int n : new int[] {-1, 5, 9, Integer.MIN_VALUE, Integer.MAX_VALUE}) {
                Due.due(x, "P53 behind " + n, x.odds(0, n, 0, 1, lower), -1, 2);
                Due.due(x, "P54 behind " + n, x.untied(0, n, lower), -1, 2);
                Due.due(x, "P55 behind " + n, x.mean(0, n, lower), -1, 2);
                Due.due(x, "P53 1 ahead of 2", x.odds(0, n, 0, 0, lower), -1, 1);
                Due.due(x, "P53 1 ahead of 2", x.odds(4, n, 0, 1, lower), -1, 1);
                Due.due(x, "P54 1 ahead of 2", x.untied(4, n, lower), -1, 1);
                Due.due(x, "P55 1 ahead of 2", x.mean(4, n, lower), -1, 1);
            }
            Due.due(x, "P53 behind 9 of 12", x.odds(1, 9, 0, 1, lower), -1, 2);
            Due.due(x, "P54 behind 9 of 12", x.untied(1, 9, lower), -1, 2);
            Due.due(x, "P55 behind 9 of 12", x.mean(1, 9, lower), -1, 2);
            for (int d : WRONG) {
                Due.due(x, "P53 odds " + d, x.odds(d, 0, 0, 1, lower), -1, 1);
                Due.due(x, "P54 untied " + d, x.untied(d, 0, lower), -1, 1);
                Due.due(x, "P55 mean " + d, x.mean(d, 0, lower), -1, 1);
            }
            for (int corner : WRONG) {
                Due.due(x, "P53 from " + corner, x.odds(0, 0, corner, 1, lower), -1, 1);
                Due.due(x, "P53 to " + corner, x.odds(0, 0, 1, corner, lower), -1, 1);
            }
            Due.due(x, "P53 unlike", x.odds(0, 0, 2, 2, lower), -1, 1);
            Due.due(y, "P53 no HALL", y.odds(0, 0, 0, 1, lower), -1, 1);
            Due.due(y, "P54 no HALL", y.untied(0, 0, lower), -1, 1);
            Due.due(y, "P55 no HALL", y.mean(0, 0, lower), -1, 1);
        }
    }

    private static void drawn(RopeDancers x, int d, int seed, int n, int upper, int lower) {
        Due.due(x, "P56 drawnUpper " + d + " " + seed + " " + n, x.drawnUpper(d, seed, n), upper, 0);
        Due.due(x, "P57 drawnLower " + d + " " + seed + " " + n, x.drawnLower(d, seed, n), lower, 0);
    }

    private static void draws() {
        // by seed 0 the draws are 74 24 52 90 41 9 31 44 4 50 39 86 mod 100
        RopeDancers x = with(50);
        int[] twists = {0, 1, 1, 2, 3, 3, 3, 3, 3, 3, 4, 4, 5};
        for (int n = 0; n <= 12; n++) {
            drawn(x, 1, 0, n, twists[n], 1);
        }
        // a: of t t r t the second slips
        drawn(x, 0, 0, 3, -1, 1);
        drawn(x, 0, 0, 4, 0, 1);
        // by seed 1 they are 49 49 5 44 83 19 63 89 72 1 42 36, by 65,536 all 36
        drawn(x, 1, 1, 12, 4, 1);
        drawn(x, 1, 65536, 12, 0, 1);
        drawn(x, 0, 1, 4, 0, 1);
        // below slips, not at it
        drawn(with(74), 1, 0, 1, 1, 1);
        drawn(with(75), 1, 0, 1, 0, 1);
        drawn(with(36), 1, 65536, 12, 12, 1);
        drawn(with(37), 1, 65536, 12, 0, 1);
        drawn(with(0), 0, 12345, 4, 1, 2);
        drawn(with(100), 0, 12345, 4, 0, 1);
        // 31 66 48 13 80 90 67 49: by 40 the first and the fourth of t t r t t t r t slip
        drawn(with(40), 2, 12345, 3, -1, 1);
        drawn(with(40), 2, 12345, 8, 0, 1);
        drawn(with(40), 2, 12345, 7, -1, 1);
        RopeDancers y = with(0);
        y.call(0, 0);
        drawn(y, 0, 5, 4, 1, 2);
    }

    private static void wrongDraws() {
        RopeDancers x = with(50);
        RopeDancers y = new RopeDancers();
        Due.due(y, "P56 no HALL", y.drawnUpper(0, 0, 0), -100000, 1);
        Due.due(y, "P57 no HALL", y.drawnLower(0, 0, 0), -1, 1);
        for (int n : new int[] {-1, 5, 13, Integer.MIN_VALUE, Integer.MAX_VALUE}) {
            Due.due(x, "P56 behind " + n, x.drawnUpper(0, 0, n), -100000, 2);
            Due.due(x, "P57 behind " + n, x.drawnLower(0, 0, n), -1, 2);
            Due.due(x, "P56 1 ahead of 2", x.drawnUpper(4, 0, n), -100000, 1);
            Due.due(x, "P57 1 ahead of 2", x.drawnLower(4, 0, n), -1, 1);
        }
        for (int seed : new int[] {-1, 65537, Integer.MIN_VALUE, Integer.MAX_VALUE}) {
            Due.due(x, "P56 by " + seed, x.drawnUpper(0, seed, 4), -100000, 2);
            Due.due(x, "P57 by " + seed, x.drawnLower(0, seed, 4), -1, 2);
        }
        for (int d : WRONG) {
            Due.due(x, "P56 drawnUpper " + d, x.drawnUpper(d, 0, 0), -100000, 1);
            Due.due(x, "P57 drawnLower " + d, x.drawnLower(d, 0, 0), -1, 1);
        }
    }
}
