import java.util.NoSuchElementException;

/** The bounds that the document names of what is unsure, called by turns, slipped, acted and told: promises 41 to 67. */
final class BoundsActs {
    private BoundsActs() {
    }

    static void all() {
        fiveHundredAndTwelve();
        fits();
        couldAndSurely();
        asks();
        judge();
        callers();
        callersBound();
        bows();
        rests();
        odds();
        slipsBounds();
        draws();
        calls();
        flips();
        resets();
        joins();
        joinBound();
        undoes();
        sixteen();
        images();
        backs();
        leds();
        sizes();
        troubles();
    }

    /** What led answers; -9 for a NoSuchElementException. */
    static int led(RopeDancers x, int i) {
        try {
            return x.led(i);
        } catch (NoSuchElementException e) {
            return -9;
        }
    }

    private static int[] f(int over, int under) {
        return new int[] {over, under};
    }

    /** It is used for 512 calls: the last of them is answered as the first. */
    private static void fiveHundredAndTwelve() {
        Doc.says("It", "An object is used for at most 512 calls after it has been made; what later calls answer is free.");
        RopeDancers x = new RopeDancers();
        Due.feed(x, "hall slips 0;dance a");
        Due.feed(x, " tt");
        Due.due("It 3rd call", x.hall(23), 1);
        for (int call = 4; call <= 511; call++) {
            Due.due("It call " + call, x.call(0, call % 2), 3 - call % 2);
        }
        Due.due("It 512th call", x.upper(0), 2);
    }

    private static RopeDancers hall(String lines) {
        return Due.with("hall slips 0;" + lines);
    }

    private static void fitting(String lines, int... sets) {
        RopeDancers x = hall(lines);
        Due.due(x, "P41 fits of " + lines, x.fits(), sets.length, 0);
        for (int i = 0; i < sets.length; i++) {
            Due.due(x, "P42 fitAt " + i + " of " + lines, x.fitAt(i), sets[i], 0);
        }
        Refused.byPlace(x, "P42 fitAt of " + lines, -1, sets.length, x::fitAt);
    }

    private static void fits() {
        Doc.says("III", "FITS: sets of unsure figures that weren't danced, all others of their ROWS being danced (a number seen counts those"
            + " of its ROW as told, danced or not), by which all ropes seen went so: all such.");
        Doc.says(41, "FITS: how many. NONE: 1 (no HALL).");
        Doc.says(42, "The i-th, by bits of unsure figures as told. NONE: 1 (i, too).");
        // no unsure figure: the empty set, or none
        fitting("dance a t", 0);
        fitting("dance a t;seen a 1 nw se", 0);
        fitting("dance a t;seen a 1 nw ne");
        // one, danced or not
        fitting("dance a t;unsure a 0", 0, 1);
        fitting("dance a t;unsure a 0;seen a 1 nw se", 0);
        fitting("dance a t;unsure a 0;seen a 1 nw ne", 1);
        fitting("dance a t;unsure a 0;seen a 1 nw sw");
        // a number behind which the figure comes says nothing of it
        fitting("dance a tt;unsure a 1;seen a 1 nw se", 0, 1);
        fitting("dance a tt;unsure a 1;seen a 1 nw ne");
        // figures as told are counted: of tt without the first, 2 is behind one twist
        fitting("dance a tt;unsure a 0;seen a 2 nw se", 1);
        fitting("dance a tt;unsure a 0;seen a 1 nw ne;seen a 2 nw se", 1);
        fitting("dance a tt;unsure a 0;seen a 1 nw se;seen a 2 nw se");
        // bits by what is told first, whatever its dance and place
        fitting("dance a tt;dance b t;unsure b 0;unsure a 1;seen b 1 nw ne", 1, 3);
        fitting("dance a tt;dance b t;unsure b 0;unsure a 1;seen a 2 nw se", 2, 3);
        fitting("dance a tt;unsure a 1;unsure a 0;seen a 1 nw ne", 2, 3);
        // four of them, all sixteen sets
        fitting("dance a tttt;unsure a 0;unsure a 1;unsure a 2;unsure a 3", 0, 1, 2, 3, 4, 5, 6, 7, 8, 9, 10, 11, 12, 13, 14, 15);
        fitting("dance a rttt;unsure a 3;unsure a 2;unsure a 1;unsure a 0;seen a 4 nw se", 8, 11, 13, 14);
        RopeDancers y = new RopeDancers();
        Due.due(y, "P41 no HALL", y.fits(), -1, 1);
        Due.due(y, "P42 no HALL", y.fitAt(0), -1, 1);
        // neither SLIPS nor the TANGLE NOW are of any account
        RopeDancers x = Due.with("hall slips 100;dance a t;unsure a 0;seen a 1 nw se");
        x.call(0, 0);
        Due.due("P42 by ROWS", x.fits() * 10 + x.fitAt(0), 10);
    }

    private static void couldAndSurely() {
        Doc.says(43, "Unsure figures in some, as bits. NONE: 1 (no HALL).");
        Doc.says(44, "Unsure figures in all (0 without a set), as bits. NONE: 1 (no HALL).");
        String three = "dance a ttt;unsure a 0;unsure a 1;unsure a 2";
        String[] texts = {"dance a t", "dance a t;unsure a 0", "dance a t;unsure a 0;seen a 1 nw se", "dance a t;unsure a 0;seen a 1 nw ne",
            "dance a t;unsure a 0;seen a 1 nw sw", "dance a t;seen a 1 nw sw", three, three + ";seen a 1 nw ne", three + ";seen a 1 nw se",
            three + ";seen a 1 nw ne;seen a 2 nw ne;seen a 3 nw ne", three + ";seen a 3 nw sw",
            "dance a tttt;unsure a 0;unsure a 1;unsure a 2;unsure a 3;seen a 1 nw ne;seen a 2 nw ne;seen a 3 nw ne;seen a 4 nw ne"};
        int[] could = {0, 1, 0, 1, 0, 0, 7, 7, 6, 7, 0, 15};
        int[] surely = {0, 0, 0, 1, 0, 0, 0, 1, 0, 7, 0, 15};
        for (int i = 0; i < texts.length; i++) {
            RopeDancers x = hall(texts[i]);
            Due.due(x, "P43 could of " + texts[i], x.could(), could[i], 0);
            Due.due(x, "P44 surely of " + texts[i], x.surely(), surely[i], 0);
        }
        RopeDancers y = new RopeDancers();
        Due.due(y, "P43 no HALL", y.could(), -1, 1);
        Due.due(y, "P44 no HALL", y.surely(), -1, 1);
    }

    private static void asks() {
        Doc.says("III", "ASK: the unsure figure by which, it being told, at most fewest FITS are left, the first such, by its place"
            + " among the unsure ones as told, from 0 (so are bits of unsure figures).");
        Doc.says(45, "ASK; -2 no FITS, no unsure figure. NONE: 1 (no HALL).");
        Doc.says(46, "How many are left at most then; -2 likewise. NONE: 1 (no HALL).");
        String three = "dance a ttt;unsure a 0;unsure a 1;unsure a 2";
        String[] texts = {"dance a t", "dance a t;seen a 1 nw ne", "dance a t;unsure a 0;seen a 1 nw sw", "dance a t;unsure a 0",
            "dance a t;unsure a 0;seen a 1 nw se", three, three + ";seen a 1 nw ne", three + ";seen a 1 nw ne;seen a 2 nw ne",
            three + ";seen a 3 nw se", "dance a ttr;dance b t;unsure b 0;unsure a 0;unsure a 1;seen b 1 nw se;seen a 1 nw ne"};
        // none, none; no FITS; one of two; the one left, told or not; all alike; the second; the third; sets 0 3 5 6; the third
        int[] ask = {-2, -2, -2, 0, 0, 0, 1, 2, 0, 2};
        int[] leaves = {-2, -2, -2, 1, 1, 4, 2, 1, 2, 1};
        for (int i = 0; i < texts.length; i++) {
            RopeDancers x = hall(texts[i]);
            Due.due(x, "P45 ask of " + texts[i], x.ask(), ask[i], 0);
            Due.due(x, "P46 askLeaves of " + texts[i], x.askLeaves(), leaves[i], 0);
        }
        RopeDancers y = new RopeDancers();
        Due.due(y, "P45 no HALL", y.ask(), -1, 1);
        Due.due(y, "P46 no HALL", y.askLeaves(), -1, 1);
    }

    private static void judge() {
        Doc.says(47, "The first seen, as told, that isn't so by ROWS as told; -2. NONE: 1 (no HALL).");
        String[] texts = {"dance a t", "dance a t;seen a 1 nw se", "dance a t;seen a 1 nw ne", "dance a t;unsure a 0;seen a 1 nw ne",
            "dance a t;seen a 1 nw se;seen a 0 nw sw", "dance a t;seen a 1 nw ne;seen a 0 nw sw",
            "dance a ttttt;seen a 0 nw ne;seen a 1 nw se;seen a 2 nw ne;seen a 3 nw se;seen a 4 nw ne;seen a 5 nw sw",
            "dance a ttttt;seen a 0 nw ne;seen a 1 nw se;seen a 2 nw ne;seen a 3 nw se;seen a 4 nw ne;seen a 5 nw se"};
        int[] judge = {-2, -2, 0, 0, 1, 0, 5, -2};
        for (int i = 0; i < texts.length; i++) {
            RopeDancers x = hall(texts[i]);
            Due.due(x, "P47 judge of " + texts[i], x.judge(), judge[i], 0);
        }
        RopeDancers y = new RopeDancers();
        Due.due(y, "P47 no HALL", y.judge(), -1, 1);
    }

    private static void game(RopeDancers x, int d, String wins, String calls) {
        for (int n = 0; n <= 8; n++) {
            Due.due(x, "P48 callers " + d + " " + n, x.callers(d, n), wins.charAt(n) - '0', 0);
            Due.due(x, "P49 callsBy " + d + " " + n, x.callsBy(d, n), n == 0 ? -2 : calls.charAt(n) - '0', 0);
        }
    }

    private static void callers() {
        Doc.says("III", "CALLERS: two, by turns, call a FIGURE for a TANGLE; by whose CALL it is 0 by 1, that one has won;"
            + " behind n CALLS (0 .. 8) nobody has.");
        Doc.says("III", "Each would rather win than not, and rather nobody than the other one.");
        Doc.says(48, "CALLERS from a TANGLE NOW: 1 who begins wins, 2 the other one does, 0 nobody (0 by 1 at first isn't won yet). NONE: 1; 2.");
        Doc.says(49, "The first FIGURE who begins calls for that; -2 there is no CALL. NONE: 1; 2.");
        RopeDancers x = Due.tangles(f(0, 1), f(1, 1), f(-1, 1), f(1, 0), f(2, 1));
        // from 0 by 1 each CALL gives the other one the last, but for one CALL alone
        game(x, 0, "002222222", "-00000000");
        game(x, 1, "011111111", "-11111111");
        game(x, 2, "011111111", "-00000000");
        game(x, 3, "011111111", "-22222222");
        game(x, 4, "000000000", "-00000000");
        // from -2 by 1 a TWIST is as good as others by one CALL, by more it gives the other one -1 by 1
        RopeDancers y = Due.tangles(f(-2, 1), f(1, 2), f(-1, 2));
        game(y, 0, "000000000", "-01111111");
        game(y, 1, "000000000", "-00000000");
        game(y, 2, "000000000", "-00000000");
        // it is of the TANGLE NOW, and leaves it
        y.call(0, 0);
        game(y, 0, "011111111", "-00000000");
        Due.is(y, "P48 it stays", 0, -1, 1);
        Due.due("P48 it is no act", y.size(4), 1);
        Refused.byNumber(x, "P48 callers", -1, 0, 8, n -> x.callers(0, n));
        Refused.byNumber(x, "P49 callsBy", -1, 0, 8, n -> x.callsBy(0, n));
        Refused.byDance(x, "P48 callers", -1, d -> x.callers(d, 1));
        Refused.byDance(x, "P49 callsBy", -1, d -> x.callsBy(d, 1));
        Due.due(x, "P48 1 is ahead of 2", x.callers(5, 9), -1, 1);
        Due.due(x, "P49 1 is ahead of 2", x.callsBy(5, -1), -1, 1);
    }

    private static void callersBound() {
        Doc.says("III", "A CALL by which one would be above 9,999 can't be called.");
        RopeDancers x = ComeTest.at9999();
        game(x, 0, "000000000", "-11111111");
        x.call(0, 1);
        game(x, 0, "000000000", "-00000000");
        // 9,998 by 9,999 can't be twisted
        x.call(0, 0);
        x.call(0, 2);
        x.call(0, 0);
        Due.is(x, "III at the bound", 0, 9998, 9999);
        game(x, 0, "000000000", "-11111111");
    }

    private static void bows() {
        Doc.says("III", "BOWS: two, each bows or stands: both bow: 1 each; both stand: 0 less pride each; who stands alone has 2, the other one 0.");
        Doc.says(50, "What the one (or ofOther, the other) has if each bows or stands, and pride is so much (0 .. 9). -100: 1 (no HALL); 2.");
        RopeDancers x = hall("dance a t");
        for (int pride : new int[] {0, 1, 9}) {
            for (boolean ofOther : new boolean[] {false, true}) {
                Due.due(x, "P50 both bow", x.bows(pride, true, true, ofOther), 1, 0);
                Due.due(x, "P50 both stand", x.bows(pride, false, false, ofOther), -pride, 0);
                Due.due(x, "P50 the one bows", x.bows(pride, true, false, ofOther), ofOther ? 2 : 0, 0);
                Due.due(x, "P50 the other bows", x.bows(pride, false, true, ofOther), ofOther ? 0 : 2, 0);
            }
        }
        Refused.byNumber(x, "P50 bows", -100, 0, 9, pride -> x.bows(pride, false, false, true));
        RopeDancers y = new RopeDancers();
        Refused.outside(y, "P50 no HALL", -100, 1, pride -> y.bows(pride, true, true, false), -1, 0, 9, 10);
    }

    private static void rests() {
        Doc.says("III", "REST: a pair by which neither could have more alone.");
        Doc.says(51, "How many RESTS. NONE: 1 (no HALL); 2.");
        Doc.says(52, "The first (standing ahead, the one's first): 10 if the one bows, and 1 if the other does; -2. NONE: likewise.");
        RopeDancers x = hall("dance a t");
        // by pride 0 who bows alone has no more than who stands, too: both standing is a REST
        Due.due(x, "P51 rests by 0", x.rests(0), 3, 0);
        Due.due(x, "P52 rest by 0", x.rest(0), 0, 0);
        for (int pride = 1; pride <= 9; pride++) {
            Due.due(x, "P51 rests by " + pride, x.rests(pride), 2, 0);
            Due.due(x, "P52 rest by " + pride, x.rest(pride), 1, 0);
        }
        Refused.byNumber(x, "P51 rests", -1, 0, 9, x::rests);
        Refused.byNumber(x, "P52 rest", -1, 0, 9, x::rest);
        RopeDancers y = new RopeDancers();
        Refused.outside(y, "P51 no HALL", -1, 1, y::rests, -1, 0, 9, 10);
        Refused.outside(y, "P52 no HALL", -1, 1, y::rest, -1, 0, 9, 10);
    }

    private static void odds(RopeDancers x, int d, int n, int corner, int to, long upper, long lower) {
        String call = "P53 odds " + d + " " + n + " " + corner + " " + to;
        Due.due(x, call, x.odds(d, n, corner, to, false), upper, 0);
        Due.due(x, call + ", lower", x.odds(d, n, corner, to, true), lower, 0);
    }

    private static void untied(RopeDancers x, int d, int n, long upper, long lower) {
        Due.due(x, "P54 untied " + d + " " + n, x.untied(d, n, false), upper, 0);
        Due.due(x, "P54 untied " + d + " " + n + ", lower", x.untied(d, n, true), lower, 0);
    }

    private static void mean(RopeDancers x, int d, int n, long upper, long lower) {
        Due.due(x, "P55 mean " + d + " " + n, x.mean(d, n, false), upper, 0);
        Due.due(x, "P55 mean " + d + " " + n + ", lower", x.mean(d, n, true), lower, 0);
    }

    private static void odds() {
        Doc.says("III", "SLIPS by chance: of the first n figures of its ROW (0 .. 8, and no more than it has), from 0 by 1 on,"
            + " as told, each isn't danced, as likely as told.");
        Doc.says(53, "How likely the rope goes from a CORNER to another one behind n figures with SLIPS, the upper WHOLE or the lower,"
            + " in lowest terms (0 by 1). -1: 1 (unlike); 2.");
        Doc.says(54, "How likely it is 0 by 1 then, likewise. -1: 1; 2.");
        Doc.says(55, "The mean of CROSSINGS then, likewise. -1: 1; 2.");
        String rows = ";dance a tttttttttttt;dance b rt;dance c tu";
        // surely danced, surely not
        RopeDancers x = Due.with("hall slips 0" + rows);
        odds(x, 0, 0, 0, 1, 1, 1);
        odds(x, 0, 0, 0, 3, 0, 1);
        odds(x, 0, 1, 0, 3, 1, 1);
        odds(x, 0, 8, 0, 3, 0, 1);
        untied(x, 0, 0, 1, 1);
        untied(x, 0, 1, 0, 1);
        untied(x, 2, 2, 1, 1);
        mean(x, 0, 0, 0, 1);
        mean(x, 0, 8, 8, 1);
        mean(x, 1, 2, 0, 1);
        RopeDancers y = Due.with("hall slips 100" + rows);
        odds(y, 0, 8, 0, 1, 1, 1);
        odds(y, 0, 8, 0, 3, 0, 1);
        untied(y, 0, 8, 1, 1);
        mean(y, 0, 8, 0, 1);
        // rt by a half: 0/1 1/0 1/1 1/0
        RopeDancers z = Due.with("hall slips 50" + rows);
        odds(z, 1, 2, 0, 1, 1, 4);
        odds(z, 1, 2, 0, 2, 1, 2);
        odds(z, 1, 2, 0, 3, 1, 4);
        untied(z, 1, 2, 1, 4);
        mean(z, 1, 2, 1, 4);
        mean(z, 0, 1, 1, 2);
        mean(z, 0, 8, 4, 1);
        untied(z, 0, 8, 1, 256);
        // as likely as told, in a hundred: 1 by 100 less the other way round; to the eighth
        RopeDancers w = Due.with("hall slips 1" + rows);
        untied(w, 0, 1, 1, 100);
        odds(w, 0, 1, 2, 1, 99, 100);
        untied(w, 0, 8, 1, 10000000000000000L);
        mean(w, 0, 8, 198, 25);
        RopeDancers v = Due.with("hall slips 99" + rows);
        untied(v, 0, 1, 99, 100);
        untied(v, 0, 8, 9227446944279201L, 10000000000000000L);
        // from 0 by 1 on, whatever it is NOW
        v.call(0, 2);
        untied(v, 0, 0, 1, 1);
        mean(v, 0, 1, 1, 100);
    }

    private static void slipsBounds() {
        int[] most = {8, 8, 7, 1};
        for (boolean lower : new boolean[] {false, true}) {
            RopeDancers x = Due.with("hall slips 50;dance a tttttttttttt;dance b tttttttt;dance c ttttttt;dance d t");
            for (int d = 0; d < 4; d++) {
                int dance = d;
                Refused.byNumber(x, "P53 odds of " + d, -1, 0, most[d], n -> x.odds(dance, n, 0, 1, lower));
                Refused.byNumber(x, "P54 untied of " + d, -1, 0, most[d], n -> x.untied(dance, n, lower));
                Refused.byNumber(x, "P55 mean of " + d, -1, 0, most[d], n -> x.mean(dance, n, lower));
            }
            Refused.byDance(x, "P53 odds", -1, d -> x.odds(d, 1, 0, 1, lower));
            Refused.byDance(x, "P54 untied", -1, d -> x.untied(d, 1, lower));
            Refused.byDance(x, "P55 mean", -1, d -> x.mean(d, 1, lower));
            Refused.byPlace(x, "P53 odds from", -1, 4, corner -> x.odds(0, 1, corner, 1, lower));
            Refused.byPlace(x, "P53 odds to", -1, 4, corner -> x.odds(0, 1, 2, corner, lower));
            Refused.outside(x, "P53 unlike", -1, 1, corner -> x.odds(0, 1, corner, corner, lower), -1, 0, 1, 2, 3, 4);
            Due.due(x, "P53 1 is ahead of 2", x.odds(0, 9, 2, 2, lower), -1, 1);
            Due.due(x, "P53 1 is ahead of 2", x.odds(4, 9, 0, 1, lower), -1, 1);
            Due.due(x, "P54 1 is ahead of 2", x.untied(4, 9, lower), -1, 1);
            Due.due(x, "P55 1 is ahead of 2", x.mean(4, -1, lower), -1, 1);
        }
    }

    private static void drawn(int slips, int seed, int n, int upper) {
        RopeDancers x = Due.with("hall slips " + slips + ";dance a tttttttttttt;dance b r");
        String call = " by " + seed + " of " + n + " with " + slips;
        Due.due(x, "P56 drawnUpper" + call, x.drawnUpper(0, seed, n), upper, 0);
        Due.due(x, "P57 drawnLower" + call, x.drawnLower(0, seed, n), 1, 0);
    }

    private static void draws() {
        Doc.says("III", "By a SEED: a DRAW mod 100 for each: below slips it isn't (SEED becomes (75 times SEED and 74) mod 65,537).");
        Doc.says(56, "The upper one behind its first n figures (0 .. as many as it has) with SLIPS by a SEED (0 .. 65,536). -100000: 1; 2.");
        Doc.says(57, "The lower one then. NONE: 1; 2.");
        // by 0 the first DRAW is 74, by 65,536 all are 65,536 again, by 873 it is 65,549 less 65,537, by 872 65,474
        drawn(74, 0, 1, 1);
        drawn(75, 0, 1, 0);
        drawn(36, 65536, 12, 12);
        drawn(37, 65536, 12, 0);
        drawn(12, 873, 1, 1);
        drawn(13, 873, 1, 0);
        drawn(74, 872, 1, 1);
        drawn(75, 872, 1, 0);
        // 74 and then 5,624: 24
        drawn(24, 0, 2, 2);
        drawn(25, 0, 2, 1);
        drawn(75, 0, 2, 0);
        drawn(0, 0, 12, 12);
        drawn(100, 0, 12, 0);
        drawn(50, 0, 0, 0);
        RopeDancers x = Due.with("hall slips 0;dance a tttttttttttt;dance b r");
        Due.due(x, "P56 a turn", x.drawnUpper(1, 7, 1), 1, 0);
        Due.due(x, "P57 a turn", x.drawnLower(1, 7, 1), 0, 0);
        Refused.byNumber(x, "P56 drawnUpper of 12", -100000, 0, 12, n -> x.drawnUpper(0, 3, n));
        Refused.byNumber(x, "P57 drawnLower of 12", -1, 0, 12, n -> x.drawnLower(0, 3, n));
        Refused.byNumber(x, "P56 drawnUpper of 1", -100000, 0, 1, n -> x.drawnUpper(1, 3, n));
        Refused.byNumber(x, "P57 drawnLower of 1", -1, 0, 1, n -> x.drawnLower(1, 3, n));
        Refused.byNumber(x, "P56 drawnUpper by", -100000, 0, 65536, seed -> x.drawnUpper(0, seed, 12));
        Refused.byNumber(x, "P57 drawnLower by", -1, 0, 65536, seed -> x.drawnLower(0, seed, 12));
        Refused.byDance(x, "P56 drawnUpper", -100000, d -> x.drawnUpper(d, 3, 1));
        Refused.byDance(x, "P57 drawnLower", -1, d -> x.drawnLower(d, 3, 1));
        Due.due(x, "P56 1 is ahead of 2", x.drawnUpper(2, -1, 1), -100000, 1);
        Due.due(x, "P57 1 is ahead of 2", x.drawnLower(-1, 3, 13), -1, 1);
    }

    private static void calls() {
        Doc.says(58, "CALL: CROSSINGS then. NONE: 1; 2 (no such FIGURE); 3 (one would be above 9,999).");
        RopeDancers x = Due.tangles(f(1, 2), f(1, 0));
        Due.due(x, "P58 a TWIST", x.call(0, 0), 3, 0);
        Due.due(x, "P58 a TURN", x.call(0, 2), 3, 0);
        Due.due(x, "P58 an UNTWIST", x.call(0, 1), 4, 0);
        Due.is(x, "P58 -2 by 3 less 1", 0, -5, 3);
        Due.due(x, "P58 of 1 by 0", x.call(1, 1), 0, 0);
        Due.due("P58 acts", x.size(4), 4);
        Refused.byNumber(x, "P58 call of", -1, 0, 2, figure -> x.call(0, figure));
        Refused.byDance(x, "P58 call", -1, d -> x.call(d, 0));
        Due.due("P58 refused ones are no acts", x.size(4), 8);
        Due.due(x, "P58 1 is ahead of 2", x.call(2, 3), -1, 1);
        RopeDancers y = ComeTest.at9999();
        int acts = y.size(4);
        Due.due(y, "P58 2 is ahead of 3", y.call(0, 3), -1, 2);
        Due.due(y, "P58 above", y.call(0, 0), -1, 3);
        Due.is(y, "P58 it stays", 0, 9999, 1);
        Due.due("P58 it is no act", y.size(4), acts);
        RopeDancers none = new RopeDancers();
        Due.due(none, "P58 no HALL", none.call(0, 0), -1, 1);
    }

    private static void flips() {
        Doc.says("III", "ACTS: CALL, FLIP (the sign changes), RESET (0 by 1), JOIN a whole (a TANGLE by 1) to one: it is so much more.");
        Doc.says(59, "FLIP: true; false: 1; 5 (0 by 1, 1 by 0).");
        RopeDancers x = Due.tangles(f(1, 1), f(-1, 1), f(0, 1), f(1, 0), f(-2, 3));
        Due.due(x, "P59 1 by 1", x.flip(0), true, 0);
        Due.is(x, "P59 1 by 1", 0, -1, 1);
        Due.due(x, "P59 -1 by 1", x.flip(1), true, 0);
        Due.is(x, "P59 -1 by 1", 1, 1, 1);
        Due.due(x, "P59 0 by 1", x.flip(2), false, 5);
        Due.due(x, "P59 1 by 0", x.flip(3), false, 5);
        Due.is(x, "P59 1 by 0", 3, 1, 0);
        Due.due(x, "P59 -2 by 3", x.flip(4), true, 0);
        Due.is(x, "P59 -2 by 3", 4, 2, 3);
        Due.due("P59 acts", x.size(4), 3);
        Refused.byDance(x, "P59 flip", 0, d -> x.flip(d) ? 1 : 0);
        RopeDancers y = ComeTest.at9999();
        Due.due(y, "P59 9,999", y.flip(0), true, 0);
        Due.is(y, "P59 9,999", 0, -9999, 1);
    }

    private static void resets() {
        Doc.says(60, "RESET: true; false: 1; 5 (it is 0 by 1).");
        RopeDancers x = Due.tangles(f(1, 1), f(-1, 1), f(0, 1), f(1, 0), f(-2, 3));
        for (int d = 0; d < 5; d++) {
            Due.due(x, "P60 reset " + d, x.reset(d), d != 2, d == 2 ? 5 : 0);
            Due.due(x, "P60 once more " + d, x.reset(d), false, 5);
            Due.is(x, "P60 reset", d, 0, 1);
        }
        Due.due("P60 acts", x.size(4), 4);
        x.back(x.image());
        x.call(0, 0);
        x.call(4, 0);
        Refused.byDance(x, "P60 reset", 0, d -> x.reset(d) ? 1 : 0);
    }

    private static void joins() {
        Doc.says(61, "JOIN: CROSSINGS then. NONE: 1 (unlike); 3 (one would be above 9,999);"
            + " 5 (other isn't a whole, or is 0; or the one is 1 by 0).");
        // 1 by 2 and -1; 0 by 1; 1 by 0
        RopeDancers x = Due.tangles(f(1, 2), f(-1, 1), f(0, 1), f(1, 0), f(1, 1));
        Due.due(x, "P61 1 by 2 and -1", x.join(0, 1), 2, 0);
        Due.is(x, "P61 1 by 2 and -1", 0, -1, 2);
        Due.is(x, "P61 the whole stays", 1, -1, 1);
        Due.due(x, "P61 -1 by 2 and 1", x.join(0, 4), 2, 0);
        Due.is(x, "P61 -1 by 2 and 1", 0, 1, 2);
        Due.due(x, "P61 no whole", x.join(1, 0), -1, 5);
        Due.due(x, "P61 is 0", x.join(0, 2), -1, 5);
        Due.due(x, "P61 1 by 0 is no whole", x.join(0, 3), -1, 5);
        Due.due(x, "P61 the one is 1 by 0", x.join(3, 4), -1, 5);
        Due.due(x, "P61 the one is 0 by 1", x.join(2, 4), 1, 0);
        Due.is(x, "P61 the one is 0 by 1", 2, 1, 1);
        Due.due(x, "P61 1 and -1", x.join(1, 4), 0, 0);
        Due.is(x, "P61 1 and -1", 1, 0, 1);
        for (int d = 0; d < 5; d++) {
            Due.due(x, "P61 unlike " + d, x.join(d, d), -1, 1);
        }
        Due.due("P61 acts", x.size(4), 4);
        Refused.outside(x, "P61 join", -1, 1, d -> x.join(d, 4), -1, 5, Integer.MIN_VALUE, Integer.MAX_VALUE);
        Refused.outside(x, "P61 join of", -1, 1, d -> x.join(0, d), -1, 5, Integer.MIN_VALUE, Integer.MAX_VALUE);
        Due.due(x, "P61 first and last", x.join(0, 4), 3, 0);
        RopeDancers none = new RopeDancers();
        Due.due(none, "P61 no HALL", none.join(0, 1), -1, 1);
    }

    private static void joinBound() {
        // to 9,999 it can be joined, to one more it can't; likewise below 0
        RopeDancers x = ComeTest.at9999();
        x.undo();
        int lacks = x.upper(2);
        Due.due("P61 to 9,999 lacks", 9999 - x.upper(0), lacks);
        x.call(2, 0);
        Due.due(x, "P61 10,000", x.join(0, 2), -1, 3);
        Due.is(x, "P61 it stays", 2, lacks + 1, 1);
        x.undo();
        Due.due(x, "P61 9,999", x.join(0, 2), 9999, 0);
        x.undo();
        x.flip(0);
        x.flip(2);
        x.call(2, 1);
        Due.due(x, "P61 -10,000", x.join(0, 2), -1, 3);
        x.undo();
        Due.due(x, "P61 -9,999", x.join(0, 2), 9999, 0);
        Due.is(x, "P61 -9,999", 0, -9999, 1);
        // of -1 by 9,999 any whole makes too much but 1
        RopeDancers y = ComeTest.at9999();
        y.call(0, 2);
        y.reset(1);
        y.call(1, 0);
        Due.due(y, "P61 9,998 by 9,999", y.join(0, 1), 9999, 0);
        Due.due(y, "P61 19,997 by 9,999", y.join(0, 1), -1, 3);
        Due.is(y, "P61 9,998 by 9,999", 0, 9998, 9999);
    }

    private static void undoes() {
        Doc.says("III", "UNDO: the latest (16 are kept).");
        Doc.says(62, "UNDO: true; false: 6.");
        RopeDancers none = new RopeDancers();
        Due.due(none, "P62 no HALL", none.undo(), false, 6);
        RopeDancers x = Due.tangles(f(2, 1), f(1, 2), f(0, 1), f(1, 0));
        Due.due(x, "P62 nothing", x.undo(), false, 6);
        x.call(0, 2);
        x.flip(1);
        x.reset(3);
        x.join(2, 0);
        Due.due("P62 -1 by 2 isn't a whole", x.trouble(), 5);
        x.call(0, 2);
        x.join(2, 0);
        x.call(1, 3);
        int[][] was = {{2, 0, 1}, {0, -1, 2}, {3, 1, 0}, {1, 1, 2}, {0, 2, 1}};
        for (int i = 0; i < 5; i++) {
            Due.due("P62 acts left", x.size(4), 5 - i);
            Due.due(x, "P62 undo " + i, x.undo(), true, 0);
            Due.is(x, "P62 undo " + i, was[i][0], was[i][1], was[i][2]);
        }
        Due.due("P62 none left", x.size(4), 0);
        Due.due(x, "P62 none left", x.undo(), false, 6);
        // what is undone can't be undone again; one that left all as it was can
        x.call(3, 0);
        Due.due(x, "P62 it was left as it was", x.undo(), true, 0);
        Due.is(x, "P62 it was left as it was", 3, 1, 0);
        Due.due(x, "P62 none left", x.undo(), false, 6);
    }

    private static void sixteen() {
        for (int acts = 15; acts <= 18; acts++) {
            RopeDancers x = Due.tangles(f(1, 1), f(1, 2));
            for (int i = 0; i < acts; i++) {
                x.call(0, 0);
                Due.due("III kept of " + (i + 1), x.size(4), Math.min(i + 1, 16));
            }
            int kept = Math.min(acts, 16);
            for (int i = 1; i <= kept; i++) {
                Due.due(x, "III undo " + i + " of " + acts, x.undo(), true, 0);
                Due.due("III undo " + i + " of " + acts, x.upper(0), 1 + acts - i);
            }
            Due.due(x, "III no more of " + acts, x.undo(), false, 6);
            Due.due("III no more of " + acts, x.upper(0), 1 + acts - kept);
            // there is room for sixteen again
            for (int i = 0; i < 16; i++) {
                x.flip(1);
            }
            Due.due("III sixteen again", x.size(4), 16);
        }
        // of several TANGLES the eldest acts are forgotten, whosever they are
        RopeDancers y = Due.tangles(f(1, 2), f(2, 3), f(3, 1));
        for (int i = 0; i < 18; i++) {
            y.call(i % 3, 2);
        }
        for (int i = 17; i >= 2; i--) {
            Due.due("III undo " + i, y.undo(), true);
        }
        Due.due(y, "III no more", y.undo(), false, 6);
        // a and b were turned once by what is forgotten
        Due.is(y, "III not forgotten", 2, 3, 1);
        Due.is(y, "III forgotten", 0, -2, 1);
        Due.is(y, "III forgotten", 1, -3, 2);
    }

    private static void images() {
        Doc.says("III", "IMAGES: up to 3; gone back to one, nothing can be undone.");
        Doc.says(63, "An IMAGE: its number. NONE: 1 (no HALL); 3.");
        RopeDancers none = new RopeDancers();
        Due.due(none, "P63 no HALL", none.image(), -1, 1);
        RopeDancers x = Due.tangles(f(2, 1));
        for (int i = 0; i < 3; i++) {
            Due.due(x, "P63 image " + i, x.image(), i, 0);
            x.call(0, 0);
        }
        Due.due(x, "P63 a fourth", x.image(), -1, 3);
        Due.due("P63 three", x.size(5), 3);
        Due.due("P63 acts stay", x.size(4), 3);
        Due.due(x, "P64 back to the last", x.back(2), true, 0);
        Due.due("P64 back to the last", x.upper(0), 4);
        Due.due(x, "III nothing can be undone", x.undo(), false, 6);
        Due.due("III nothing can be undone", x.size(4), 0);
        Due.due(x, "P63 a fourth still", x.image(), -1, 3);
    }

    private static void backs() {
        Doc.says(64, "All is as by an IMAGE (all IMAGES stay): true; false: 1.");
        RopeDancers none = new RopeDancers();
        Refused.outside(none, "P64 no HALL", 0, 1, i -> none.back(i) ? 1 : 0, -1, 0, 2, 3);
        RopeDancers x = Due.tangles(f(2, 1), f(1, 2), f(0, 1), f(1, 0), f(-3, 1));
        for (int images = 0; images < 3; images++) {
            Refused.outside(x, "P64 of " + images, 0, 1, i -> x.back(i) ? 1 : 0, -1, images, 3, Integer.MIN_VALUE, Integer.MAX_VALUE);
            x.image();
            x.call(0, 0);
            x.call(4, 0);
        }
        Due.due(x, "P64 to the last", x.back(2), true, 0);
        Due.is(x, "P64 to the last", 0, 4, 1);
        Due.is(x, "P64 to the last", 4, -1, 1);
        Due.due(x, "P64 to the first", x.back(0), true, 0);
        Due.is(x, "P64 to the first", 0, 2, 1);
        Due.is(x, "P64 to the first", 4, -3, 1);
        Due.is(x, "P64 to the first", 3, 1, 0);
        Due.due(x, "P64 to one behind", x.back(1), true, 0);
        Due.is(x, "P64 to one behind", 0, 3, 1);
        Due.due("P64 all stay", x.size(5), 3);
        x.flip(0);
        Due.due("P64 from now on an act", x.undo(), true);
        Due.is(x, "P64 from now on an act", 0, 3, 1);
        x.flip(0);
        Due.due(x, "P64 refused", x.back(3), false, 1);
        Due.due("P64 refused, acts stay", x.size(4), 1);
        Refused.byPlace(x, "P64 back", 0, 3, i -> x.back(i) ? 1 : 0);
    }

    private static void leds() {
        Doc.says(65, "The i-th dance, by numbers, whose TANGLE is 0 by 1. NoSuchElementException if there is none such.");
        RopeDancers none = new RopeDancers();
        Due.due(none, "P65 no HALL", led(none, 0), -9, 0);
        RopeDancers x = Due.tangles(f(1, 0), f(0, 1), f(1, 1), f(-1, 1), f(0, 1));
        Due.due("P65 the first", led(x, 0), 1);
        Due.due("P65 the last", led(x, 1), 4);
        for (int i : new int[] {2, -1, Integer.MIN_VALUE, Integer.MAX_VALUE}) {
            Due.due("P65 led " + i, led(x, i), -9);
        }
        x.call(1, 0);
        x.call(4, 2);
        Due.due("P65 none", led(x, 0), -9);
        for (int d = 0; d < 5; d++) {
            x.reset(d);
        }
        for (int i = 0; i < 5; i++) {
            Due.due("P65 all, " + i, led(x, i), i);
        }
        Due.due("P65 all, 5", led(x, 5), -9);
    }

    private static void sizes() {
        Doc.says(66, "0 slips, 1 dances, 2 unsure figures, 3 seen, 4 ACTS that can be undone, 5 IMAGES, 6 bytes of THE TAPE."
            + " NONE for others; 0 for what there isn't.");
        RopeDancers x = Due.with("hall slips 100;dance a tt;dance b t;dance c t;dance d t;dance e t;unsure a 0;unsure a 1;unsure b 0;unsure c 0;"
            + "seen a 0 nw ne;seen a 1 nw ne;seen a 2 nw ne;seen b 0 nw ne;seen b 1 nw ne;seen c 0 nw ne");
        int[] least = {100, 5, 4, 6, 0, 0, 0};
        sized(x, least);
        for (int i = 0; i < 20; i++) {
            x.call(0, 0);
            x.image();
        }
        for (int i = 0; i < 31; i++) {
            x.feed(0, 0, 0, 0, 0);
        }
        int[] most = {100, 5, 4, 6, 16, 3, 600};
        sized(x, most);
        sized(new RopeDancers(), new int[7]);
        sized(hall("dance a t"), new int[] {0, 1, 0, 0, 0, 0, 0});
    }

    private static void sized(RopeDancers x, int[] sizes) {
        for (int what = 0; what < 7; what++) {
            Due.due("P66 size " + what, x.size(what), sizes[what]);
        }
        for (int what : new int[] {-1, 7, Integer.MIN_VALUE, Integer.MAX_VALUE}) {
            Due.due("P66 size " + what, x.size(what), -1);
        }
    }

    private static void troubles() {
        Doc.says("IV", "TROUBLE of the latest call that may be refused (those of which a number is told here):"
            + " 0 it wasn't; 1 there is none such; 2 a number; 3 no room; 4 a FAULT; 5 not so; 6 there is none.");
        Doc.says(67, "TROUBLE.");
        RopeDancers x = new RopeDancers();
        Due.due("P67 no call yet", x.trouble(), 0);
        for (int trouble = 0; trouble <= 6; trouble++) {
            troubled(x, trouble);
            // those of which none is told leave it as it was, whatever they answer
            x.feed(0, 0, 0, 0, 0);
            x.fault();
            x.where();
            led(x, 0);
            led(x, 99);
            x.size(0);
            x.size(99);
            Due.due("P67 " + trouble + ", and told again", x.trouble(), trouble);
        }
        for (int i = 0; i < 31; i++) {
            x.feed(0, 0, 0, 0, 0);
        }
        Due.due("P67 a full tape", x.trouble(), 6);
        x.upper(0);
        Due.due("P67 not refused", x.trouble(), 0);
    }

    private static void troubled(RopeDancers x, int trouble) {
        switch (trouble) {
            case 0 -> Due.hall(x, "hall slips 0;dance a tu;dance b t");
            case 1 -> x.upper(2);
            case 2 -> x.reach(8);
            case 3 -> {
                for (int i = 0; i < 4; i++) {
                    x.image();
                }
            }
            case 4 -> x.hall(1);
            case 5 -> x.flip(0);
            default -> x.undo();
        }
        Due.due("P67 " + trouble, x.trouble(), trouble);
    }
}
