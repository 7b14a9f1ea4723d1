/** The bounds that the document names of TANGLES, in terms II and III and in promises 6 to 40. */
final class BoundsTangles {
    private BoundsTangles() {
    }

    static void all() {
        fractions();
        figuresOf();
        bound();
        ends();
        partsOf();
        rows();
        after();
        ways();
        again();
        traces();
        untying();
        comes();
        noFraction();
        comeBound();
        reach();
        apart();
        between();
        rungs();
        knots();
        colours();
        alike();
        mirrored();
        kinds();
    }

    private static int[] f(int over, int under) {
        return new int[] {over, under};
    }

    /** Of no more use than that a HALL is told. */
    private static RopeDancers any() {
        return Due.with("hall slips 0;dance a t;dance b ttr");
    }

    private static void fractions() {
        Doc.says("II", "A TANGLE is a fraction, upper by lower in lowest terms, the lower one 0 or above (by 0 the upper one is 1).");
        RopeDancers x = Due.with("hall slips 0;dance a utr;dance b tur;dance c utruuutr;dance d uur;dance e ttr");
        Due.is(x, "II 1 by 0", 0, 1, 0);
        Due.is(x, "II 1 by 0", 1, 1, 0);
        Due.is(x, "II 1 by 0, untwisted, turned, turned", 2, 0, 1);
        Due.is(x, "II the sign above", 3, 1, 2);
        Due.is(x, "II the sign above", 4, -1, 2);
        // from -1 by 1 and from 1 by 1 to 1 by 1 and -1 by 1
        RopeDancers y = Due.with("hall slips 0;dance a ur;dance b tr;dance c rttttttttttt;dance d rur");
        Due.is(y, "II -1 by 1, turned", 0, 1, 1);
        Due.is(y, "II 1 by 1, turned", 1, -1, 1);
        Due.is(y, "II 1 by 0, twisted", 2, 1, 0);
        Due.is(y, "II 1 by 0, turned", 3, 0, 1);
        Doc.says("II", "At first it is 0 by 1.");
        Due.due("II at first", y.upperAfter(0, 0), 0);
        Due.due("II at first", y.lowerAfter(0, 0), 1);
        Doc.says("III", "NOW, at first, each TANGLE is as behind its whole ROW.");
        RopeDancers z = Due.with("hall slips 100;dance a t;dance b tttttttttttt;unsure a 0;seen a 1 nw ne");
        Due.is(z, "III NOW, though it may not have been danced", 0, 1, 1);
        Due.is(z, "III NOW", 1, 12, 1);
        Doc.says(6, "The upper one of a TANGLE NOW. -100000: 1.");
        Refused.byDance(z, "P6 upper", -100000, z::upper);
        Doc.says(7, "The lower one. NONE: 1.");
        Refused.byDance(z, "P7 lower", -1, z::lower);
        RopeDancers none = new RopeDancers();
        Due.due(none, "P6 no HALL", none.upper(0), -100000, 1);
        Due.due(none, "P7 no HALL", none.lower(0), -1, 1);
    }

    private static void figuresOf() {
        Doc.says("II", "FIGURES: 0 TWIST: 1 more. 1 UNTWIST: 1 less (1 by 0 stays in both).");
        RopeDancers x = Due.tangles(f(0, 1), f(-1, 1), f(1, 0), f(-1, 2), f(1, 1));
        int[][] twisted = {{1, 1}, {0, 1}, {1, 0}, {1, 2}, {2, 1}};
        int[][] untwisted = {{-1, 1}, {-2, 1}, {1, 0}, {-3, 2}, {0, 1}};
        for (int d = 0; d < 5; d++) {
            x.call(d, 0);
            Due.is(x, "II twisted", d, twisted[d][0], twisted[d][1]);
            x.undo();
            x.call(d, 1);
            Due.is(x, "II untwisted", d, untwisted[d][0], untwisted[d][1]);
            x.undo();
        }
        Doc.says("II", "2 TURN: less 1 by what it is: upper and lower change places, and the sign is the other one"
            + " (0 by 1 and 1 by 0 become each other).");
        RopeDancers y = Due.tangles(f(0, 1), f(1, 0), f(1, 1), f(-1, 1), f(-5, 2));
        int[][] turned = {{1, 0}, {0, 1}, {-1, 1}, {1, 1}, {2, 5}};
        for (int d = 0; d < 5; d++) {
            y.call(d, 2);
            Due.is(y, "II turned", d, turned[d][0], turned[d][1]);
        }
    }

    private static void bound() {
        Doc.says("II", "A CALL is a FIGURE; no TANGLE may come to have an upper one (the sign left away) or a lower one above 9,999.");
        RopeDancers x = ComeTest.at9999();
        Due.due(x, "II 9,999", x.call(0, 0), -1, 3);
        Due.due(x, "II 9,998", x.call(0, 1), 9998, 0);
        Due.due(x, "II 9,999", x.call(0, 0), 9999, 0);
        x.flip(0);
        Due.due(x, "II -9,999", x.call(0, 1), -1, 3);
        Due.due(x, "II -9,998", x.call(0, 0), 9998, 0);
        Due.due(x, "II -9,999", x.call(0, 1), 9999, 0);
        Due.is(x, "II -9,999", 0, -9999, 1);
        Due.due(x, "II a lower one of 9,999", x.call(0, 2), 9999, 0);
        Due.is(x, "II a lower one of 9,999", 0, 1, 9999);
        Due.due(x, "II 10,000 by 9,999", x.call(0, 0), -1, 3);
        Due.due(x, "II -9,998 by 9,999", x.call(0, 1), 9999, 0);
        Due.due(x, "II -19,997 by 9,999", x.call(0, 1), -1, 3);
        Due.is(x, "II -9,998 by 9,999", 0, -9998, 9999);
    }

    private static void ends() {
        Doc.says("II", "CORNERS: 0 nw, 1 ne, 2 sw, 3 se. An even upper one: ropes go from nw to ne, from sw to se.");
        int[][] even = {f(0, 1), f(2, 1), f(-2, 1), f(2, 3), f(-4, 3)};
        int[][] down = {f(1, 0), f(1, 2), f(-1, 2), f(3, 2), f(-5, 4)};
        int[][] across = {f(1, 1), f(-1, 1), f(3, 1), f(1, 3), f(-5, 3)};
        ropes(Due.tangles(even), new int[] {1, 0, 3, 2});
        Doc.says("II", "An even lower one: from nw to sw, from ne to se.");
        ropes(Due.tangles(down), new int[] {2, 3, 0, 1});
        Doc.says("II", "Both odd: from nw to se, from ne to sw.");
        ropes(Due.tangles(across), new int[] {3, 2, 1, 0});
        Doc.says(8, "To which CORNER the rope goes from one. NONE: 1.");
        RopeDancers x = any();
        Refused.byDance(x, "P8 end", -1, d -> x.end(d, 3));
        Refused.byPlace(x, "P8 end", -1, 4, corner -> x.end(1, corner));
    }

    private static void ropes(RopeDancers x, int[] goes) {
        for (int d = 0; d < 5; d++) {
            for (int corner = 0; corner < 4; corner++) {
                Due.due("P8 end of " + d + " from " + corner, x.end(d, corner), goes[corner]);
            }
        }
    }

    private static void partsOf() {
        Doc.says("II", "PARTS: how often the lower one goes into the upper one (the sign left away), then what is left into the lower one ..,"
            + " till nothing is left (none of 1 by 0; one of a whole).");
        Doc.says("II", "CROSSINGS: all PARTS together.");
        Doc.says(9, "How many PARTS. NONE: 1.");
        Doc.says(10, "The i-th. NONE: 1 (i, too).");
        Doc.says(11, "CROSSINGS. NONE: 1.");
        parted(Due.tangles(f(1, 0), f(0, 1), f(1, 1), f(-1, 1), f(5, 1)), new int[][] {{}, {0}, {1}, {1}, {5}});
        parted(Due.tangles(f(-5, 1), f(1, 2), f(-1, 2), f(5, 3), f(-7, 3)), new int[][] {{5}, {0, 2}, {0, 2}, {1, 1, 2}, {2, 3}});
        RopeDancers x = ComeTest.at9999();
        parted(x, new int[][] {{9999}});
        x.call(0, 2);
        parted(x, new int[][] {{0, 9999}});
        x.call(0, 0);
        parted(x, new int[][] {{0, 1, 9998}});
        Refused.byDance(x, "P9 parts", -1, x::parts);
        Refused.byDance(x, "P10 part", -1, d -> x.part(d, 0));
        Refused.byDance(x, "P11 crossings", -1, x::crossings);
    }

    private static void parted(RopeDancers x, int[][] parts) {
        for (int d = 0; d < parts.length; d++) {
            int tangle = d;
            int sum = 0;
            Due.due(x, "P9 parts of " + d, x.parts(d), parts[d].length, 0);
            for (int i = 0; i < parts[d].length; i++) {
                Due.due(x, "P10 part of " + d + " at " + i, x.part(d, i), parts[d][i], 0);
                sum += parts[d][i];
            }
            Refused.byPlace(x, "P10 part of " + d, -1, parts[d].length, i -> x.part(tangle, i));
            Due.due(x, "P11 crossings of " + d, x.crossings(d), sum, 0);
        }
    }

    private static void rows() {
        RopeDancers x = Due.with("hall slips 0;dance a u;dance b rtttttttttuu");
        Doc.says(12, "How many figures its ROW has. NONE: 1.");
        Due.due(x, "P12 one", x.figures(0), 1, 0);
        Due.due(x, "P12 twelve", x.figures(1), 12, 0);
        Refused.byDance(x, "P12 figures", -1, x::figures);
        Doc.says(13, "The i-th FIGURE of it (0 the first). NONE: 1 (i, too).");
        Due.due("P13 the first", x.figure(1, 0), 2);
        Due.due("P13 the second", x.figure(1, 1), 0);
        Due.due("P13 the last", x.figure(1, 11), 1);
        Due.due("P13 the only one", x.figure(0, 0), 1);
        Refused.byPlace(x, "P13 figure", -1, 12, i -> x.figure(1, i));
        Refused.byPlace(x, "P13 figure", -1, 1, i -> x.figure(0, i));
        Refused.byDance(x, "P13 figure", -1, d -> x.figure(d, 0));
    }

    private static void after() {
        RopeDancers x = Due.with("hall slips 0;dance a u;dance b rtttttttttur");
        Doc.says(14, "The upper one behind the first n figures. -100000: 1; 2 (more than it has, below 0).");
        Doc.says(15, "The lower one then. NONE: 1; 2.");
        int[][] behind = {{0, 1}, {1, 0}};
        for (int n = 0; n <= 1; n++) {
            Due.due("P14 behind " + n, x.upperAfter(1, n), behind[n][0]);
            Due.due("P15 behind " + n, x.lowerAfter(1, n), behind[n][1]);
        }
        Due.due("P14 ahead of the last", x.upperAfter(1, 11), 1);
        Due.due("P15 ahead of the last", x.lowerAfter(1, 11), 0);
        Due.due("P14 behind all", x.upperAfter(1, 12), 0);
        Due.due("P15 behind all", x.lowerAfter(1, 12), 1);
        Refused.byNumber(x, "P14 upperAfter", -100000, 0, 12, n -> x.upperAfter(1, n));
        Refused.byNumber(x, "P15 lowerAfter", -1, 0, 12, n -> x.lowerAfter(1, n));
        Refused.byNumber(x, "P14 upperAfter", -100000, 0, 1, n -> x.upperAfter(0, n));
        Refused.byNumber(x, "P15 lowerAfter", -1, 0, 1, n -> x.lowerAfter(0, n));
        Refused.byDance(x, "P14 upperAfter", -100000, d -> x.upperAfter(d, 1));
        Refused.byDance(x, "P15 lowerAfter", -1, d -> x.lowerAfter(d, 1));
        Due.due(x, "P14 1 is ahead of 2", x.upperAfter(2, 13), -100000, 1);
        Due.due(x, "P15 1 is ahead of 2", x.lowerAfter(2, -1), -1, 1);
    }

    private static void ways() {
        Doc.says(16, "Behind how many of its figures (0 .. as many as it has) there are most CROSSINGS, first. NONE: 1.");
        RopeDancers x = Due.with("hall slips 0;dance a r;dance b t;dance c tttttttttttt;dance d ttutr;dance e rttttrt");
        int[] most = {0, 1, 12, 2, 7};
        for (int d = 0; d < 5; d++) {
            Due.due(x, "P16 mostAt " + d, x.mostAt(d), most[d], 0);
        }
        Refused.byDance(x, "P16 mostAt", -1, x::mostAt);
        Doc.says(17, "Behind how many of them the rope from a CORNER goes to another one, first; -2. NONE: 1 (unlike).");
        Due.due(x, "P17 behind none", x.goesFirst(2, 3, 2), 0, 0);
        Due.due(x, "P17 behind one", x.goesFirst(2, 3, 0), 1, 0);
        Due.due(x, "P17 behind the last", x.goesFirst(0, 3, 1), 1, 0);
        Due.due(x, "P17 behind all seven", x.goesFirst(4, 0, 3), 7, 0);
        Due.due(x, "P17 never", x.goesFirst(2, 3, 1), -2, 0);
        Due.due(x, "P17 never", x.goesFirst(0, 3, 0), -2, 0);
        for (int corner = 0; corner < 4; corner++) {
            int from = corner;
            Refused.outside(x, "P17 unlike, from " + from, -1, 1, to -> x.goesFirst(2, from, to), from, -1, 4);
            Refused.byPlace(x, "P17 from", -1, 4, by -> x.goesFirst(2, by, by == from ? from ^ 1 : from));
        }
        Refused.outside(x, "P17 no corners", -1, 1, to -> x.goesFirst(2, to, to + 1), -2, -1, 3, 4);
        Refused.byDance(x, "P17 goesFirst", -1, d -> x.goesFirst(d, 0, 1));
    }

    private static void again() {
        Doc.says(18, "How often its ROW must be danced, from 0 by 1 on, that it is 0 by 1 behind it again, first (1 .. 60);"
            + " -2 not so, or one would be above 9,999 behind some figure ahead of that. NONE: 1.");
        // sixty times ttr lead to -60 by 61; by the last one it is soon above 9,999
        RopeDancers x = Due.with("hall slips 0;dance a rttttttttttr;dance b urt;dance c tr;dance d ttr;dance e tttrtttrtttr");
        int[] times = {1, 2, 3, -2, -2};
        for (int d = 0; d < 5; d++) {
            Due.due(x, "P18 again " + d, x.again(d), times[d], 0);
        }
        Due.due("P18 from 0 by 1 on, not from NOW", x.call(0, 0), 1);
        Due.due("P18 from 0 by 1 on, not from NOW", x.again(0), 1);
        Due.is(x, "P18 NOW stays", 0, 1, 1);
        Refused.byDance(x, "P18 again", -1, x::again);
        RopeDancers y = Due.with("hall slips 0;dance a r;dance b tttttttttttt;dance c tttttttttttr;dance d uuuuuuuuuuur");
        int[] more = {2, -2, -2, -2};
        for (int d = 0; d < 4; d++) {
            Due.due(y, "P18 again " + d, y.again(d), more[d], 0);
        }
    }

    private static void traces() {
        Doc.says(19, "TRACE: from a 1, b 0, c 0, d 1 on, figure by figure: a TWIST adds c to a, d to b; an UNTWIST takes them away;"
            + " by a TURN a becomes less c, b less d, c what a was, d what b was: at the end a and d together, the sign left away. NONE: 1.");
        // r rr tr uuuur, and twelve turns by themselves
        RopeDancers x = Due.with("hall slips 0;dance a r;dance b rr;dance c tr;dance d uuuur;dance e rrrrrrrrrrrr");
        int[] traces = {0, 2, 1, 4, 2};
        for (int d = 0; d < 5; d++) {
            Due.due(x, "P19 trace " + d, x.trace(d), traces[d], 0);
        }
        Refused.byDance(x, "P19 trace", -1, x::trace);
        // what is added or taken away, with turns on both sides of it
        RopeDancers z = Due.with("hall slips 0;dance a rtrt;dance b rtru;dance c ruru;dance d rurt;dance e tttrtttrtttr");
        int[] turned = {1, 3, 1, 3, 18};
        for (int d = 0; d < 5; d++) {
            Due.due(z, "P19 trace between turns " + d, z.trace(d), turned[d], 0);
        }
        Doc.says(20, "1 if the ROWS of two lead from whatever TANGLE, 9,999 or not, to the same one, else 0. NONE: 1.");
        // rr by rr: a sign is no difference; from 0 by 1 r and rt lead to the same one, from others not
        int[][] same = {{1, 0, 0, 0, 0}, {0, 1, 0, 0, 1}, {0, 0, 1, 0, 0}, {0, 0, 0, 1, 0}, {0, 1, 0, 0, 1}};
        for (int d = 0; d < 5; d++) {
            for (int other = 0; other < 5; other++) {
                Due.due(x, "P20 sameDance " + d + " " + other, x.sameDance(d, other), same[d][other], 0);
            }
        }
        RopeDancers y = Due.with("hall slips 0;dance a r;dance b rt;dance c t;dance d tttttttttttt;dance e ttttttttttt");
        Due.due("P20 the same from 0 by 1 alone", y.sameDance(0, 1), 0);
        Due.due("P20 one more", y.sameDance(3, 4), 0);
        Due.due("P20 one and itself", y.sameDance(3, 3), 1);
        Refused.byDance(y, "P20 sameDance", -1, d -> y.sameDance(d, 0));
        Refused.byDance(y, "P20 sameDance to", -1, d -> y.sameDance(0, d));
    }

    private static void untying() {
        Doc.says("II", "UNTIE: as long as it isn't 0 by 1: below 0 a TWIST, else a TURN.");
        Doc.says(21, "UNTIE: how many CALLS (0 of 0 by 1; 1 of 1 by 0). NONE: 1.");
        Doc.says(22, "How many of them are TURNS. NONE: 1.");
        Doc.says(23, "The i-th FIGURE of it (0 the first). NONE: 1 (i, too).");
        Doc.says(24, "The greatest lower one on the way (its own, too). NONE: 1.");
        RopeDancers x = Due.tangles(f(0, 1), f(1, 0), f(-1, 1), f(1, 1), f(-2, 5));
        // -2/5 3/5 -5/3 -2/3 1/3 -3/1 .. 0/1: the greatest is its own; 8/5 -5/8: by the way
        untied(x, new String[] {"", "r", "t", "rt", "trttrttt"}, new int[] {1, 1, 1, 1, 5});
        RopeDancers y = Due.tangles(f(2, 1), f(-5, 1), f(5, 2), f(8, 5), f(1, 2));
        untied(y, new String[] {"rtrtt", "ttttt", "rtrttrttt", "rtrtttrttt", "rtt"}, new int[] {2, 1, 5, 8, 2});
        Due.is(y, "P21 it is not untied by that", 0, 2, 1);
        Refused.byDance(y, "P21 untie", -1, y::untie);
        Refused.byDance(y, "P22 turnsOf", -1, y::turnsOf);
        Refused.byDance(y, "P23 untieAt", -1, d -> y.untieAt(d, 0));
        Refused.byDance(y, "P24 widest", -1, y::widest);
        RopeDancers z = ComeTest.at9999();
        // n/1 -1/n (n-1)/n, then by each k down to 2 -k/(k-1) -1/(k-1) (k-2)/(k-1)
        Due.due("P21 9,999", z.untie(0), 3 * 9999 - 1);
        Due.due("P22 9,999", z.turnsOf(0), 9999);
        Due.due("P24 9,999", z.widest(0), 9999);
        Due.due(z, "P23 9,999, the last", z.untieAt(0, 3 * 9999 - 2), 0, 0);
        Due.due(z, "P23 9,999, none", z.untieAt(0, 3 * 9999 - 1), -1, 1);
    }

    private static void untied(RopeDancers x, String[] ways, int[] widest) {
        for (int d = 0; d < 5; d++) {
            int tangle = d;
            Due.due(x, "P21 untie " + d, x.untie(d), ways[d].length(), 0);
            Due.due(x, "P22 turnsOf " + d, x.turnsOf(d), ways[d].replace("t", "").length(), 0);
            for (int i = 0; i < ways[d].length(); i++) {
                Due.due(x, "P23 untieAt " + d + " " + i, x.untieAt(d, i), ways[d].charAt(i) == 't' ? 0 : 2, 0);
            }
            Refused.byPlace(x, "P23 untieAt " + d, -1, ways[d].length(), i -> x.untieAt(tangle, i));
            Due.due(x, "P24 widest " + d, x.widest(d), widest[d], 0);
        }
    }

    private static void come(RopeDancers x, int over, int under, int row) {
        int calls = row > 0 ? Integer.toString(row).length() : row;
        Due.due(x, "P25 come to " + over + "/" + under, x.come(0, over, under), calls, 0);
        Due.due(x, "P26 comeRow to " + over + "/" + under, x.comeRow(0, over, under), row, 0);
    }

    private static void comes() {
        Doc.says("III", "ROWS of CALLS: digits, n of them (0 .. 7), the first one's the highest: 1 TWIST, 2 UNTWIST, 3 TURN.");
        Doc.says("III", "COME to a fraction: the ROW of fewest CALLS from a TANGLE NOW; of like ones the first by digits.");
        Doc.says(25, "COME to upper by lower: how many CALLS (0 .. 7); -2 not by so many.");
        Doc.says(26, "Its ROW, as a WHOLE (0 without a CALL); -2. NONE: 1; 2.");
        RopeDancers x = Due.tangles(f(2, 1));
        come(x, 2, 1, 0);
        come(x, 3, 1, 1);
        come(x, 1, 1, 2);
        come(x, -1, 2, 3);
        // 1/1 -1/1 -2/1, as well as -1/2 1/2 -2/1 by 313
        come(x, -2, 1, 232);
        come(x, 8, 1, 111111);
        come(x, 9, 1, 1111111);
        come(x, 10, 1, -2);
        come(x, -6, 1, 2322222);
        come(x, -7, 1, -2);
        // -1/1 1/1 2/1, as well as 1/2 -1/2 2/1 by 323
        RopeDancers y = Due.tangles(f(-2, 1));
        come(y, 2, 1, 131);
        come(y, -9, 1, 2222222);
        come(y, -10, 1, -2);
        // a CALL that leaves 1 by 0 as it is is none too few
        RopeDancers z = Due.tangles(f(1, 0));
        come(z, 1, 0, 0);
        come(z, 0, 1, 3);
        come(z, 6, 1, 3111111);
        come(z, 7, 1, -2);
        z.call(0, 2);
        come(z, 1, 0, 3);
        come(z, 7, 1, 1111111);
        come(z, -7, 1, 2222222);
        come(z, 8, 1, -2);
    }

    private static void noFraction() {
        Doc.says(25, "NONE: 1; 2 (no fraction as II tells them, as -1 by 0, 0 by 2, 2 by 4, 1 by -1; one above 9,999, the sign left away).");
        RopeDancers x = any();
        int[][] none = {f(-1, 0), f(0, 0), f(2, 0), f(9999, 0), f(0, 2), f(0, 9999), f(2, 4), f(-2, 4), f(3, 3), f(-9, 6), f(1, -1), f(0, -1),
            f(-1, -1), f(10000, 1), f(-10000, 1), f(1, 10000), f(-1, 10000), f(10000, 9999), f(Integer.MIN_VALUE, 1),
            f(Integer.MAX_VALUE, 1), f(1, Integer.MIN_VALUE), f(1, Integer.MAX_VALUE), f(Integer.MIN_VALUE, 0)};
        for (int[] g : none) {
            Due.due(x, "P25 " + g[0] + "/" + g[1], x.come(0, g[0], g[1]), -1, 2);
            Due.due(x, "P26 " + g[0] + "/" + g[1], x.comeRow(0, g[0], g[1]), -1, 2);
            Due.due(x, "P25 1 is ahead of 2", x.come(2, g[0], g[1]), -1, 1);
            Due.due(x, "P26 1 is ahead of 2", x.comeRow(-1, g[0], g[1]), -1, 1);
        }
        int[][] far = {f(9999, 1), f(-9999, 1), f(1, 9999), f(-1, 9999), f(9998, 9999), f(-9999, 9998)};
        for (int[] g : far) {
            come(x, g[0], g[1], -2);
        }
        int[][] near = {f(1, 0), f(0, 1), f(1, 1), f(-1, 1), f(1, 2)};
        int[] rows = {23, 2, 0, 3, 131};
        for (int i = 0; i < near.length; i++) {
            come(x, near[i][0], near[i][1], rows[i]);
        }
        Refused.byDance(x, "P25 come", -1, d -> x.come(d, 1, 0));
        Refused.byDance(x, "P26 comeRow", -1, d -> x.comeRow(d, 1, 0));
    }

    private static void comeBound() {
        RopeDancers x = ComeTest.at9999();
        come(x, 9999, 1, 0);
        come(x, 9998, 1, 2);
        come(x, 9992, 1, 2222222);
        come(x, 9991, 1, -2);
        come(x, -1, 9999, 3);
        come(x, 9998, 9999, 31);
        come(x, -9999, 9998, 232);
        Due.due(x, "P25 above", x.come(0, 10000, 1), -1, 2);
    }

    private static void reach() {
        Doc.says(27, "How many TANGLES can be had from 0 by 1 by n CALLS (0 .. 7) or fewer (itself, too). NONE: 1 (no HALL); 2.");
        RopeDancers x = any();
        // itself; 1, -1 and 1 by 0; 2 and -2; 3, -3, 1 by 2 and -1 by 2; ..
        int[] had = {1, 4, 6, 10, 16, 26, 42, 68};
        for (int n = 0; n <= 7; n++) {
            Due.due(x, "P27 reach " + n, x.reach(n), had[n], 0);
        }
        Refused.byNumber(x, "P27 reach", -1, 0, 7, x::reach);
        RopeDancers y = new RopeDancers();
        Refused.outside(y, "P27 no HALL", -1, 1, y::reach, -1, 0, 7, 8);
    }

    private static void apart() {
        Doc.says(28, "How far two are apart: the one's upper one times the other's lower one, less the other way round, the sign left away. NONE: 1.");
        RopeDancers x = Due.tangles(f(0, 1), f(1, 0), f(5, 3), f(-5, 3), f(2, 1));
        int[][] far = {{0, 1, 5, 5, 2}, {1, 0, 3, 3, 1}, {5, 3, 0, 30, 1}, {5, 3, 30, 0, 11}, {2, 1, 1, 11, 0}};
        for (int d = 0; d < 5; d++) {
            for (int other = 0; other < 5; other++) {
                Due.due(x, "P28 apart " + d + " " + other, x.apart(d, other), far[d][other], 0);
            }
        }
        Refused.byDance(x, "P28 apart", -1, d -> x.apart(d, 0));
        Refused.byDance(x, "P28 apart to", -1, d -> x.apart(0, d));
        RopeDancers y = ComeTest.at9999();
        y.reset(1);
        y.call(1, 2);
        y.call(0, 2);
        y.call(0, 0);
        y.call(0, 2);
        Due.due("P28 of -9,999 by 9,998 and 1 by 0", y.apart(0, 1), 9998);
    }

    private static void gap(RopeDancers x, int d, int other, int over, int under) {
        Due.due(x, "P29 upperBetween " + d + " " + other, x.upperBetween(d, other), over, 0);
        Due.due(x, "P30 lowerBetween " + d + " " + other, x.lowerBetween(d, other), under, 0);
        Due.due(x, "P29 upperBetween " + other + " " + d, x.upperBetween(other, d), over, 0);
        Due.due(x, "P30 lowerBetween " + other + " " + d, x.lowerBetween(other, d), under, 0);
    }

    private static void noGap(RopeDancers x, int d, int other, int trouble) {
        Due.due(x, "P29 upperBetween " + d + " " + other, x.upperBetween(d, other), -100000, trouble);
        Due.due(x, "P30 lowerBetween " + d + " " + other, x.lowerBetween(d, other), -1, trouble);
    }

    private static void between() {
        Doc.says(29, "The upper one of the fraction that is between two and has the least lower one, of like ones the one nearest to 0."
            + " -100000: 1 (unlike); 5 (one is 1 by 0, or they are the same).");
        Doc.says(30, "Its lower one. NONE: 1; 5.");
        // neither of the two is between them
        RopeDancers x = Due.tangles(f(0, 1), f(1, 1), f(2, 1), f(-1, 1), f(-2, 1));
        gap(x, 0, 1, 1, 2);
        gap(x, 0, 2, 1, 1);
        gap(x, 1, 2, 3, 2);
        gap(x, 0, 3, -1, 2);
        gap(x, 3, 4, -3, 2);
        gap(x, 1, 3, 0, 1);
        gap(x, 2, 4, 0, 1);
        // of like ones the nearest to 0
        RopeDancers y = Due.tangles(f(5, 2), f(9, 2), f(-5, 2), f(-9, 2), f(1, 0));
        gap(y, 0, 1, 3, 1);
        gap(y, 2, 3, -3, 1);
        gap(y, 0, 2, 0, 1);
        gap(y, 1, 3, 0, 1);
        for (int d = 0; d < 4; d++) {
            noGap(y, d, 4, 5);
            noGap(y, 4, d, 5);
            noGap(y, d, d, 1);
        }
        // unlike ahead of 1 by 0
        noGap(y, 4, 4, 1);
        RopeDancers z = Due.with("hall slips 0;dance a tt;dance b ttrr;dance c r;dance d rt;dance e tttu");
        noGap(z, 0, 1, 5);
        noGap(z, 4, 0, 5);
        noGap(z, 2, 3, 5);
        z.call(1, 0);
        gap(z, 0, 1, 5, 2);
        Refused.byDance(x, "P29 upperBetween", -100000, d -> x.upperBetween(d, 2));
        Refused.byDance(x, "P29 upperBetween to", -100000, d -> x.upperBetween(2, d));
        Refused.byDance(x, "P30 lowerBetween", -1, d -> x.lowerBetween(d, 2));
        Refused.byDance(x, "P30 lowerBetween to", -1, d -> x.lowerBetween(2, d));
        // 9,998 by 9,999 and 1 by 1: 9,999 by 10,000 is between, though no TANGLE may come to be it
        RopeDancers w = ComeTest.at9999();
        w.call(0, 2);
        w.call(0, 0);
        w.reset(1);
        w.call(1, 0);
        gap(w, 0, 1, 9999, 10000);
    }

    private static void rungs() {
        Doc.says(31, "RUNGS: how many fractions there are from 0 by 1 to 1 by 1 whose lower one is n (1 .. 200) or less. NONE: 1 (no HALL); 2.");
        Doc.says(32, "The upper one of the i-th of them, from the least on (0 by 1 is the 0th). NONE: 1 (no HALL); 2; 6 (there is none such).");
        Doc.says(33, "Its lower one. NONE: likewise.");
        RopeDancers x = any();
        int count = 1;
        for (int n = 1; n <= 200; n++) {
            for (int over = 1; over <= n; over++) {
                count += java.math.BigInteger.valueOf(over).gcd(java.math.BigInteger.valueOf(n)).intValue() == 1 ? 1 : 0;
            }
            if (n < 4 || n > 198) {
                rungsOf(x, n, count);
            }
        }
        Refused.byNumber(x, "P31 rungs", -1, 1, 200, x::rungs);
        Refused.byNumber(x, "P32 rungUpper", -1, 1, 200, n -> x.rungUpper(n, 1));
        Refused.byNumber(x, "P33 rungLower", -1, 1, 200, n -> x.rungLower(n, 1));
        Due.due(x, "P32 2 is ahead of 6", x.rungUpper(201, -1), -1, 2);
        Due.due(x, "P33 2 is ahead of 6", x.rungLower(0, 9), -1, 2);
        RopeDancers y = new RopeDancers();
        Refused.outside(y, "P31 no HALL", -1, 1, y::rungs, 0, 1, 200, 201);
        Refused.outside(y, "P32 no HALL", -1, 1, n -> y.rungUpper(n, 0), 0, 1, 200, 201);
        Refused.outside(y, "P33 no HALL", -1, 1, n -> y.rungLower(n, -1), 0, 1, 200, 201);
    }

    private static void rungsOf(RopeDancers x, int n, int count) {
        Due.due(x, "P31 rungs " + n, x.rungs(n), count, 0);
        int[] at = {0, 1, count - 2, count - 1};
        int[] over = {0, 1, n - 1, 1};
        int[] under = {1, n, n, 1};
        for (int k = 0; k < 4; k++) {
            Due.due(x, "P32 rungUpper " + n + " " + at[k], x.rungUpper(n, at[k]), over[k], 0);
            Due.due(x, "P33 rungLower " + n + " " + at[k], x.rungLower(n, at[k]), under[k], 0);
        }
        Refused.outside(x, "P32 rungUpper " + n, -1, 6, i -> x.rungUpper(n, i), -1, count, Integer.MIN_VALUE, Integer.MAX_VALUE);
        Refused.outside(x, "P33 rungLower " + n, -1, 6, i -> x.rungLower(n, i), -1, count, Integer.MIN_VALUE, Integer.MAX_VALUE);
    }

    private static void knots() {
        Doc.says("III", "CLOSED across: nw is tied to ne, sw to se; its KNOT number: the upper one, the sign left away."
            + " CLOSED down: nw to sw, ne to se; its KNOT number: the lower one. It has 2 RINGS if that is even, else 1.");
        Doc.says(34, "KNOT number, across or down. NONE: 1.");
        Doc.says(35, "RINGS. NONE: 1.");
        RopeDancers x = Due.tangles(f(0, 1), f(1, 0), f(-1, 2), f(2, 3), f(-3, 1));
        int[] across = {0, 1, 1, 2, 3};
        int[] down = {1, 0, 2, 3, 1};
        int[] ringsAcross = {2, 1, 1, 2, 1};
        int[] ringsDown = {1, 2, 2, 1, 1};
        for (int d = 0; d < 5; d++) {
            Due.due(x, "P34 knot across " + d, x.knot(d, false), across[d], 0);
            Due.due(x, "P34 knot down " + d, x.knot(d, true), down[d], 0);
            Due.due(x, "P35 rings across " + d, x.rings(d, false), ringsAcross[d], 0);
            Due.due(x, "P35 rings down " + d, x.rings(d, true), ringsDown[d], 0);
        }
        for (boolean way : new boolean[] {false, true}) {
            Refused.byDance(x, "P34 knot", -1, d -> x.knot(d, way));
            Refused.byDance(x, "P35 rings", -1, d -> x.rings(d, way));
        }
        Doc.says(37, "The KNOT number of two TANGLES side by side, CLOSED across: the one's upper one times the other's lower one,"
            + " and the other way round, together, the sign left away. NONE: 1.");
        int[][] beside = {{0, 1, 1, 2, 3}, {1, 0, 2, 3, 1}, {1, 2, 4, 1, 7}, {2, 3, 1, 12, 7}, {3, 1, 7, 7, 6}};
        for (int d = 0; d < 5; d++) {
            for (int other = 0; other < 5; other++) {
                Due.due(x, "P37 beside " + d + " " + other, x.beside(d, other), beside[d][other], 0);
            }
        }
        Refused.byDance(x, "P37 beside", -1, d -> x.beside(d, 0));
        Refused.byDance(x, "P37 beside to", -1, d -> x.beside(0, d));
        RopeDancers y = ComeTest.at9999();
        y.call(0, 2);
        y.call(0, 0);
        Due.due("P37 9,998 by 9,999 twice", y.beside(0, 0), 2 * 9998 * 9999);
    }

    private static void colours() {
        Doc.says("III", "COLOURS by m: m times the greatest number by which m and the KNOT number can both be parted.");
        Doc.says(36, "COLOURS by m (2 .. 99). NONE: 1; 2.");
        // KNOT numbers 0 by all, 1 by none but 1, 99 and 98 by themselves
        RopeDancers x = Due.tangles(f(0, 1), f(1, 0), f(-6, 1), f(9, 4));
        int[][] by = {{2, 4, 2, 4, 2}, {3, 9, 3, 9, 9}, {6, 36, 6, 36, 18}, {99, 99 * 99, 99, 297, 891}, {98, 98 * 98, 98, 196, 98}};
        for (int[] m : by) {
            for (int d = 0; d < 4; d++) {
                Due.due(x, "P36 colours " + d + " by " + m[0], x.colours(d, false, m[0]), m[d + 1], 0);
            }
        }
        Due.due("P36 down, by 0", x.colours(1, true, 99), 99 * 99);
        Due.due("P36 down, by 1", x.colours(0, true, 99), 99);
        Due.due("P36 down, by 4", x.colours(3, true, 2), 4);
        for (boolean down : new boolean[] {false, true}) {
            Refused.byNumber(x, "P36 colours by", -1, 2, 99, m -> x.colours(2, down, m));
            Refused.byDance(x, "P36 colours", -1, d -> x.colours(d, down, 2));
            Due.due(x, "P36 1 is ahead of 2", x.colours(4, down, 1), -1, 1);
        }
    }

    private static void table(RopeDancers x, int[][] alike, int[][] mirrored) {
        for (int d = 0; d < alike.length; d++) {
            for (int other = 0; other < alike.length; other++) {
                Due.due(x, "P38 alike " + d + " " + other, x.alike(d, other), alike[d][other], 0);
                Due.due(x, "P39 mirrored " + d + " " + other, x.mirrored(d, other), mirrored[d][other], 0);
            }
        }
    }

    private static void alike() {
        Doc.says("III", "Two CLOSED across are ALIKE if their KNOT numbers are, both k, and, each lower one given its upper one's sign,"
            + " the one less the other, or one times the other less 1, is a multiple of k (by k 0 or 1 all are; an upper one 0 has no sign).");
        Doc.says(38, "1 if two CLOSED across are ALIKE, else 0. NONE: 1.");
        Doc.says("III", "In a MIRROR: ALIKE, the sign of the one changed ahead.");
        // k 0, 1 and 2: 0/1 0/1; 1/0 -1/3 1/2; all are alike that have one k
        RopeDancers x = Due.with("hall slips 0;dance a tu;dance b tuut;dance c r;dance d tttr;dance e uur");
        int[][] same = {{1, 1, 0, 0, 0}, {1, 1, 0, 0, 0}, {0, 0, 1, 1, 1}, {0, 0, 1, 1, 1}, {0, 0, 1, 1, 1}};
        table(x, same, same);
        int[][] two = {{1, 1, 1, 0, 0}, {1, 1, 1, 0, 0}, {1, 1, 1, 0, 0}, {0, 0, 0, 1, 0}, {0, 0, 0, 0, 1}};
        int[][] twoMirrored = {{1, 1, 1, 0, 0}, {1, 1, 1, 0, 0}, {1, 1, 1, 0, 0}, {0, 0, 0, 0, 1}, {0, 0, 0, 1, 0}};
        // 2/1 -2/1 2/3; 3/1 and -3/1 differ by 2, and less 1 times 1 less 1 is -2
        table(Due.tangles(f(2, 1), f(-2, 1), f(2, 3), f(3, 1), f(-3, 1)), two, twoMirrored);
        // 8/1 8/3 8/5 -8/3 -8/7: 3 and 5 differ by 2, and 15 less 1 is 14; -3 and 5 differ by 8; -7 and 1 do
        int[][] eight = {{1, 0, 0, 0, 1}, {0, 1, 0, 0, 0}, {0, 0, 1, 1, 0}, {0, 0, 1, 1, 0}, {1, 0, 0, 0, 1}};
        int[][] eightMirrored = {{0, 0, 0, 0, 0}, {0, 0, 1, 1, 0}, {0, 1, 0, 0, 0}, {0, 1, 0, 0, 0}, {0, 0, 0, 0, 0}};
        RopeDancers z = Due.tangles(f(8, 1), f(8, 3), f(8, 5), f(-8, 3), f(-8, 7));
        table(z, eight, eightMirrored);
        // 5/2 and 5/3: 2 times 3 less 1 is 5; 7/2 and 7/3: 2 times 3 less 1 is 5, too, no multiple of 7
        RopeDancers y = Due.tangles(f(5, 2), f(5, 3), f(7, 2), f(7, 3), f(7, 4));
        int[][] five = {{1, 1, 0, 0, 0}, {1, 1, 0, 0, 0}, {0, 0, 1, 0, 1}, {0, 0, 0, 1, 0}, {0, 0, 1, 0, 1}};
        int[][] fiveMirrored = {{1, 1, 0, 0, 0}, {1, 1, 0, 0, 0}, {0, 0, 0, 1, 0}, {0, 0, 1, 0, 1}, {0, 0, 0, 1, 0}};
        table(y, five, fiveMirrored);
        Refused.byDance(y, "P38 alike", -1, d -> y.alike(d, 0));
        Refused.byDance(y, "P38 alike to", -1, d -> y.alike(0, d));
    }

    private static void mirrored() {
        Doc.says(39, "1 if they are in a MIRROR (one and itself, too), else 0. NONE: 1.");
        // one and itself: 5/2 is (2 times -2 less 1 is -5), 3/1 isn't, 0/1, 1/0 and 2/1 are
        RopeDancers x = Due.tangles(f(5, 2), f(3, 1), f(0, 1), f(1, 0), f(2, 1));
        int[] itself = {1, 0, 1, 1, 1};
        for (int d = 0; d < 5; d++) {
            Due.due(x, "P39 one and itself " + d, x.mirrored(d, d), itself[d], 0);
            Due.due(x, "P38 one and itself " + d, x.alike(d, d), 1, 0);
        }
        Refused.byDance(x, "P39 mirrored", -1, d -> x.mirrored(d, 0));
        Refused.byDance(x, "P39 mirrored to", -1, d -> x.mirrored(0, d));
    }

    private static void kinds() {
        Doc.says("III", "Of a KNOT number k there is one for each of 1 .. k that has no other number in common with k"
            + " by which both can be parted than 1, as lower one.");
        Doc.says(40, "How many there are of a KNOT number (1 .. 200), CLOSED across, ALIKE ones once; mirror: ALIKE ones in a MIRROR once, too."
            + " NONE: 1 (no HALL); 2.");
        RopeDancers x = any();
        // 1: 1; 2: 1; 3: 1, 2; 4: 1, 3; 5: 1, 2 with 3, 4; 6: 1, 5; 8: 1, 3, 5, 7, each alike itself alone
        int[] k = {1, 2, 3, 4, 5, 6, 7, 8, 199, 200};
        int[] kinds = {1, 1, 2, 2, 3, 2, 4, 4, 100, 44};
        int[] once = {1, 1, 1, 1, 2, 1, 2, 2, 50, 22};
        for (int i = 0; i < k.length; i++) {
            Due.due(x, "P40 kinds " + k[i], x.kinds(k[i], false), kinds[i], 0);
            Due.due(x, "P40 kinds " + k[i] + ", in a MIRROR once", x.kinds(k[i], true), once[i], 0);
        }
        RopeDancers y = new RopeDancers();
        for (boolean mirror : new boolean[] {false, true}) {
            Refused.byNumber(x, "P40 kinds", -1, 1, 200, n -> x.kinds(n, mirror));
            Refused.outside(y, "P40 no HALL", -1, 1, n -> y.kinds(n, mirror), 0, 1, 200, 201);
        }
    }
}
