import java.util.ArrayList;
import java.util.List;
import java.util.NoSuchElementException;

/** What answers by a ROW as told, what by a TANGLE NOW, and that asking changes neither. */
final class StateTest {
    /** 3 by 2, -2 by 3, 0 by 1, 1 by 0, 3 by 1. */
    private static final String TEXT = "hall slips 30;dance a ttrtt;dance b ttrttr;dance c tu;dance d r;dance e ttt"
        + ";unsure a 1;unsure b 2;unsure e 0;seen a 2 nw se;seen b 3 nw ne;seen e 0 nw ne";

    private StateTest() {
    }

    public static void main(String[] args) {
        rowsStay();
        rowsByTheirWholeEnd();
        nowCounts();
        refusedActs();
        refusedAtTheBound();
        askingChangesNothing();
        withoutHall();
        Due.end("StateTest");
    }

    /** The answers that the ROW of one gives, NOW aside. */
    private static List<Long> byRow(RopeDancers x, int d) {
        List<Long> all = new ArrayList<>();
        int figures = x.figures(d);
        all.add((long) figures);
        for (int n = 0; n <= figures; n++) {
            all.add((long) x.figure(d, n));
            all.add((long) x.upperAfter(d, n));
            all.add((long) x.lowerAfter(d, n));
        }
        all.add((long) x.mostAt(d));
        for (int rope = 0; rope < 16; rope++) {
            all.add((long) x.goesFirst(d, rope / 4, rope % 4));
        }
        all.add((long) x.again(d));
        all.add((long) x.trace(d));
        for (int other = 0; other < x.size(1); other++) {
            all.add((long) x.sameDance(d, other));
        }
        return all;
    }

    /** The answers that SLIPS on the ROW of one give, NOW aside. */
    private static List<Long> bySlips(RopeDancers x, int d) {
        List<Long> all = new ArrayList<>();
        for (int n = 0; n <= x.figures(d); n++) {
            for (int to = 1; to < 4; to++) {
                all.add(x.odds(d, n, 0, to, false));
                all.add(x.odds(d, n, 0, to, true));
            }
            all.add(x.untied(d, n, false));
            all.add(x.untied(d, n, true));
            all.add(x.mean(d, n, false));
            all.add(x.mean(d, n, true));
            for (int seed = 0; seed < 5; seed++) {
                all.add((long) x.drawnUpper(d, seed, n));
                all.add((long) x.drawnLower(d, seed, n));
            }
        }
        return all;
    }

    /** The answers of the HALL as a whole, NOW aside. */
    private static List<Long> byHall(RopeDancers x) {
        List<Long> all = new ArrayList<>();
        for (int n = 0; n <= 7; n++) {
            all.add((long) x.reach(n));
        }
        for (int n = 1; n <= 6; n++) {
            all.add((long) x.rungs(n));
            all.add((long) x.rungUpper(n, n));
            all.add((long) x.rungLower(n, n));
            all.add((long) x.kinds(n, false));
            all.add((long) x.kinds(n, true));
        }
        all.add((long) x.fits());
        for (int i = 0; i < 8; i++) {
            all.add((long) x.fitAt(i));
        }
        all.add((long) x.could());
        all.add((long) x.surely());
        all.add((long) x.ask());
        all.add((long) x.askLeaves());
        all.add((long) x.judge());
        for (int pride = 0; pride <= 9; pride++) {
            all.add((long) x.bows(pride, false, false, false));
            all.add((long) x.rests(pride));
            all.add((long) x.rest(pride));
        }
        for (int what = 0; what < 4; what++) {
            all.add((long) x.size(what));
        }
        return all;
    }

    /** The answers that a TANGLE NOW gives. */
    private static List<Long> byNow(RopeDancers x, int d) {
        List<Long> all = new ArrayList<>();
        all.add((long) x.upper(d));
        all.add((long) x.lower(d));
        for (int corner = 0; corner < 4; corner++) {
            all.add((long) x.end(d, corner));
        }
        all.add((long) x.parts(d));
        for (int i = 0; i < 5; i++) {
            all.add((long) x.part(d, i));
        }
        all.add((long) x.crossings(d));
        all.add((long) x.untie(d));
        all.add((long) x.turnsOf(d));
        for (int i = 0; i <= x.untie(d) && i < 12; i++) {
            all.add((long) x.untieAt(d, i));
        }
        all.add((long) x.widest(d));
        for (int upper = -2; upper <= 2; upper++) {
            all.add((long) x.come(d, upper, 1));
            all.add((long) x.comeRow(d, upper, 1));
        }
        for (int m = 2; m < 6; m++) {
            all.add((long) x.colours(d, false, m));
            all.add((long) x.colours(d, true, m));
        }
        all.add((long) x.knot(d, false));
        all.add((long) x.knot(d, true));
        all.add((long) x.rings(d, false));
        all.add((long) x.rings(d, true));
        for (int n = 0; n <= 8; n++) {
            all.add((long) x.callers(d, n));
            all.add((long) x.callsBy(d, n));
        }
        return all;
    }

    /** The answers that two TANGLES NOW give. */
    private static List<Long> byBoth(RopeDancers x, int d, int other) {
        List<Long> all = new ArrayList<>();
        all.add((long) x.apart(d, other));
        all.add((long) x.upperBetween(d, other));
        all.add((long) x.lowerBetween(d, other));
        all.add((long) x.beside(d, other));
        all.add((long) x.alike(d, other));
        all.add((long) x.mirrored(d, other));
        return all;
    }

    /** ACTS on all dances, by which none is as behind its ROW. */
    private static void act(RopeDancers x) {
        x.join(0, 4);
        x.call(0, 2);
        x.flip(1);
        x.call(1, 0);
        x.call(2, 2);
        x.call(3, 2);
        x.call(3, 0);
        x.reset(4);
        x.call(4, 1);
        Due.is(x, "acts", 0, -2, 9);
        Due.is(x, "acts", 1, 5, 3);
        Due.is(x, "acts", 2, 1, 0);
        Due.is(x, "acts", 3, 1, 1);
        Due.is(x, "acts", 4, -1, 1);
        Due.due("all were ACTS", x.size(4), 9);
    }

    private static void rowsStay() {
        String[] promises = {"P12 to P20 by the ROW", "P53 to P57 by the ROW", "P27, P31, P40 to P47, P50 by the HALL"};
        for (int d = 0; d < 5; d++) {
            for (int sort = 0; sort < (d == 0 ? 3 : 2); sort++) {
                RopeDancers x = Due.with(TEXT);
                List<Long> before = asked(x, d, sort);
                act(x);
                Due.due(promises[sort] + " of dance " + d + ": " + before, asked(x, d, sort).equals(before), true);
            }
        }
    }

    private static List<Long> asked(RopeDancers x, int d, int sort) {
        return sort == 0 ? byRow(x, d) : sort == 1 ? bySlips(x, d) : byHall(x);
    }

    /** Answers that the end of a ROW alone gives, though NOW is another one. */
    private static void rowsByTheirWholeEnd() {
        RopeDancers x = Due.with("hall slips 50;dance a ttr;dance b tt;seen a 3 nw sw");
        // -1 by 2: NOW it is 3 by 2, and 2 by 1 is 0 by 1
        x.call(0, 0);
        x.call(0, 0);
        x.reset(1);
        Due.is(x, "NOW", 0, 3, 2);
        Due.due(x, "P14 by the ROW", x.upperAfter(0, 3), -1, 0);
        Due.due(x, "P15 by the ROW", x.lowerAfter(1, 2), 1, 0);
        Due.due(x, "P14 by the ROW", x.upperAfter(1, 2), 2, 0);
        Due.due(x, "P16 by the ROW", x.mostAt(1), 2, 0);
        Due.due(x, "P17 by the ROW", x.goesFirst(0, 0, 2), 3, 0);
        Due.due(x, "P17 by the ROW", x.goesFirst(1, 0, 2), -2, 0);
        Due.due(x, "P47 by the ROW", x.judge(), -2, 0);
        Due.due(x, "P41 by the ROW", x.fits(), 1, 0);
        // of tt neither is danced once in four times, both are once, one is twice
        Due.due(x, "P54 by the ROW", x.untied(1, 2, true), 4, 0);
        Due.due(x, "P55 by the ROW", x.mean(1, 2, false), 1, 0);
        Due.due(x, "P55 by the ROW", x.mean(1, 2, true), 1, 0);
        Due.due(x, "P53 by the ROW", x.odds(1, 2, 0, 1, false), 1, 0);
        Due.due(x, "P53 by the ROW", x.odds(1, 2, 0, 1, true), 2, 0);
    }

    /** What CALLS, a FLIP and a JOIN made answers as what a ROW leads to. */
    private static void nowCounts() {
        int[][] fractions = {{-2, 9}, {5, 3}, {1, 0}, {1, 1}, {-1, 1}};
        for (int d = 0; d < 5; d++) {
            RopeDancers x = Due.with(TEXT);
            act(x);
            RopeDancers y = Due.tangles(fractions);
            Due.due("P6 to P49 by the TANGLE NOW " + d, byNow(x, d).equals(byNow(y, d)), true);
            for (int other = 0; other < 5; other++) {
                Due.due("P28 to P39 by two NOW " + d + other, byBoth(x, d, other).equals(byBoth(y, d, other)), true);
            }
        }
        RopeDancers x = Due.with(TEXT);
        Due.due("P65 led", x.led(0), 2);
        act(x);
        Due.due("P65 none is led NOW", led(x), -1);
        x.call(2, 2);
        x.call(4, 0);
        Due.due("P65 led", x.led(0) * 10 + x.led(1), 24);
    }

    private static int led(RopeDancers x) {
        try {
            return x.led(0);
        } catch (NoSuchElementException e) {
            return -1;
        }
    }

    /** All that can be seen to change: TANGLES NOW, sizes, the FAULT. */
    private static String state(RopeDancers x) {
        StringBuilder state = new StringBuilder();
        state.append(x.trouble()).append(' ').append(x.fault()).append(' ').append(x.where());
        for (int what = 0; what < 7; what++) {
            state.append(' ').append(x.size(what));
        }
        for (int d = 0; d < 5; d++) {
            state.append(' ').append(x.upper(d)).append('/').append(x.lower(d));
        }
        return state.toString();
    }

    /** An object with ACTS, two IMAGES and twenty bytes. */
    private static RopeDancers busy() {
        RopeDancers x = Due.with(TEXT);
        x.image();
        act(x);
        x.image();
        x.call(0, 0);
        x.call(1, 2);
        x.feed(1, 2, 3, 4, 5);
        return x;
    }

    private static final String BUSY = "0 0 -1 30 5 3 3 11 2 20 7/9 -3/5 1/0 1/1 -1/1";

    /** A refused ACT leaves all as it is, what can be undone too. */
    private static void refusedActs() {
        Due.due("busy: " + state(busy()), state(busy()).equals(BUSY), true);
        for (int act = 0; act < 20; act++) {
            RopeDancers x = busy();
            int trouble = refused(x, act);
            Due.due("P67 refused act " + act, x.trouble(), trouble);
            x.undo();
            Due.is(x, "P62 behind refused act " + act, 1, 5, 3);
            x.undo();
            Due.is(x, "P62 behind refused act " + act, 0, -2, 9);
            String state = state(x);
            Due.due("P58 to P64 refused act " + act + ": " + state,
                state.equals("0 0 -1 30 5 3 3 9 2 20 -2/9 5/3 1/0 1/1 -1/1"), true);
        }
    }

    private static int refused(RopeDancers x, int act) {
        switch (act) {
            case 0: x.call(5, 0); return 1;
            case 1: x.call(-1, 0); return 1;
            case 2: x.call(0, 3); return 2;
            case 3: x.call(1, -1); return 2;
            case 4: x.flip(5); return 1;
            case 5: x.flip(-1); return 1;
            case 6: x.flip(2); return 5;
            case 7: x.reset(5); return 1;
            case 8: x.reset(-1); return 1;
            case 9: x.join(0, 0); return 1;
            case 10: x.join(0, 5); return 1;
            case 11: x.join(-1, 0); return 1;
            case 12: x.join(0, 1); return 5;
            case 13: x.join(0, 2); return 5;
            case 14: x.join(2, 3); return 5;
            case 15: x.back(2); return 1;
            case 16: x.back(-1); return 1;
            case 17: x.hall(21); return 2;
            case 18: x.hall(-1); return 2;
            default: x.back(3); return 1;
        }
    }

    private static void refusedAtTheBound() {
        for (int act = 0; act < 4; act++) {
            RopeDancers x = ComeTest.at9999();
            x.image();
            x.call(1, 2);
            int acts = x.size(4);
            int upper = x.upper(1);
            int lower = x.lower(1);
            for (int i = 0; i < 3; i++) {
                Due.due("P58, P61 refused " + act, act < 3 ? x.call(0, 0) : x.join(0, 2), -1);
                Due.due("P58, P61 refused " + act, x.trouble(), 3);
            }
            Due.due("P58, P61 refused ones are no ACTS", x.size(4), acts);
            Due.is(x, "P58, P61 refused", 0, 9999, 1);
            Due.is(x, "P58, P61 refused", 1, upper, lower);
            Due.due("P62 the ACT ahead of them", x.undo(), true);
            Due.due("P62 the ACT ahead of them", x.upper(1) == upper && x.lower(1) == lower, false);
            Due.is(x, "P62 the ACT ahead of them", 0, 9999, 1);
            Due.due("P63", x.image() * 10 + x.image(), 12);
            Due.due("P63 no room", x.image(), -1);
            Due.due("P67 no room", x.trouble(), 3);
            Due.due("P63 no more of them", x.size(5), 3);
        }
    }

    /** Each call that only asks, refused or not, leaves all as it is. */
    private static void askingChangesNothing() {
        for (int call = 0; call < 58; call++) {
            for (int good = 0; good < 2; good++) {
                RopeDancers x = busy();
                long answer = ask(x, call, good == 0 ? 0 : 7);
                x.hall(-1);
                x.hall(x.size(6) + 1);
                Due.due("asked " + call + ": " + answer, x.trouble(), 2);
                String state = state(x);
                Due.due("asked " + call + ": " + state, state.equals("2" + BUSY.substring(1)), true);
                x.undo();
                x.undo();
                Due.is(x, "P62 behind asking " + call, 0, -2, 9);
                Due.is(x, "P62 behind asking " + call, 1, 5, 3);
                x.back(0);
                Due.is(x, "P64 behind asking " + call, 0, 3, 2);
                Due.is(x, "P64 behind asking " + call, 4, 3, 1);
            }
        }
    }

    /** Each call on an object of its own, that it tells by what it was refused, and no call ahead did. */
    private static void withoutHall() {
        for (int call = 2; call <= 53; call++) {
            RopeDancers x = new RopeDancers();
            boolean isUpper = call == 2 || call == 10 || call == 25 || call == 52;
            long want = isUpper ? -100000 : call == 46 ? -100 : -1;
            Due.due("without a HALL, call " + call, ask(x, call, 0), want);
            Due.due("without a HALL, call " + call + ", trouble", x.trouble(), 1);
        }
        for (int act = 0; act < 7; act++) {
            RopeDancers x = new RopeDancers();
            boolean[] none = {act == 0 && x.call(0, 0) != -1, act == 1 && x.flip(0), act == 2 && x.reset(0),
                act == 3 && x.join(0, 1) != -1, act == 4 && x.image() != -1, act == 5 && x.back(0), act == 6 && x.undo()};
            Due.due("without a HALL, act " + act, none[act], false);
            Due.due("without a HALL, act " + act + ", trouble", x.trouble(), act == 6 ? 6 : 1);
        }
    }

    private static long ask(RopeDancers x, int call, int d) {
        switch (call) {
            case 0: return x.fault();
            case 1: return x.where();
            case 2: return x.upper(d);
            case 3: return x.lower(d);
            case 4: return x.end(d, 1);
            case 5: return x.parts(d);
            case 6: return x.part(d, 1);
            case 7: return x.crossings(d);
            case 8: return x.figures(d);
            case 9: return x.figure(d, 1);
            case 10: return x.upperAfter(d, 2);
            case 11: return x.lowerAfter(d, 2);
            case 12: return x.mostAt(d);
            case 13: return x.goesFirst(d, 0, 3);
            case 14: return x.again(d);
            case 15: return x.trace(d);
            case 16: return x.sameDance(d, 1);
            case 17: return x.untie(d);
            case 18: return x.turnsOf(d);
            case 19: return x.untieAt(d, 1);
            case 20: return x.widest(d);
            case 21: return x.come(d, 7, 9);
            case 22: return x.comeRow(d, -2, 9);
            case 23: return x.reach(d + 1);
            case 24: return x.apart(d, 1);
            case 25: return x.upperBetween(d, 1);
            case 26: return x.lowerBetween(1, d);
            case 27: return x.rungs(d == 0 ? 9 : 201);
            case 28: return x.rungUpper(9, d == 0 ? 3 : 99);
            case 29: return x.rungLower(9, d == 0 ? 3 : 99);
            case 30: return x.knot(d, true);
            case 31: return x.rings(d, false);
            case 32: return x.colours(d, false, 7);
            case 33: return x.beside(d, 1);
            case 34: return x.alike(d, 1);
            case 35: return x.mirrored(1, d);
            case 36: return x.kinds(d + 9, true);
            case 37: return x.fits();
            case 38: return x.fitAt(d);
            case 39: return x.could();
            case 40: return x.surely();
            case 41: return x.ask();
            case 42: return x.askLeaves();
            case 43: return x.judge();
            case 44: return x.callers(d, 8);
            case 45: return x.callsBy(d, 8);
            case 46: return x.bows(d * 2, true, false, true);
            case 47: return x.rests(d * 2);
            case 48: return x.rest(d * 2);
            case 49: return x.odds(d, 3, 0, 1, true);
            case 50: return x.untied(d, 3, false);
            case 51: return x.mean(d, 3, true);
            case 52: return x.drawnUpper(d, 7, 3);
            case 53: return x.drawnLower(d, 7, 3);
            case 54: return led(x);
            case 55: return x.size(d);
            case 56: return x.trouble();
            default: return x.hall(d == 0 ? -1 : 21);
        }
    }
}
