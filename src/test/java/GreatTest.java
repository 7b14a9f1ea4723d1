/** Answers of tangles as great as they may come to be, whose products are far greater. */
final class GreatTest {
    private GreatTest() {
    }

    public static void main(String[] args) {
        pair();
        pairInMirror();
        wholes();
        between();
        noRoom();
        Due.end("GreatTest");
    }

    /** Makes dance d, being 0 by 1, a whole, by doubling it and by a TWIST more. */
    private static void grow(RopeDancers x, int d, int helper, int whole) {
        for (int bit = 31 - Integer.numberOfLeadingZeros(whole); bit >= 0; bit--) {
            x.reset(helper);
            if (x.join(helper, d) > 0) {
                x.join(d, helper);
            }
            if ((whole >> bit & 1) == 1) {
                x.call(d, 0);
            }
        }
        x.reset(helper);
        Due.is(x, "a whole", d, whole, 1);
    }

    /** 9999 by 4999, 9999 by 9997 and 0 by 1: 4999 times 9997 less 1 is 4998 times 9999. */
    private static RopeDancers alikeOnes() {
        RopeDancers x = Due.with("hall slips 0;dance a tu;dance b ttr;dance c tu");
        grow(x, 0, 2, 4999);
        x.flip(0);
        // -1 by 2 flipped, 4999 less
        x.flip(1);
        x.join(1, 0);
        x.call(1, 2);
        x.call(1, 0);
        Due.is(x, "the other", 1, 9999, 9997);
        x.call(0, 2);
        x.call(0, 0);
        x.call(0, 0);
        Due.is(x, "the one", 0, 9999, 4999);
        return x;
    }

    private static void pair() {
        RopeDancers x = alikeOnes();
        Due.due(x, "P28 apart", x.apart(0, 1), 9999 * 4998, 0);
        Due.due(x, "P28 apart", x.apart(1, 0), 9999 * 4998, 0);
        Due.due(x, "P28 apart from 0 by 1", x.apart(1, 2), 9999, 0);
        Due.due(x, "P37 beside", x.beside(0, 1), 9999 * 14996, 0);
        Due.due(x, "P37 beside itself", x.beside(1, 1), 2 * 9999 * 9997, 0);
        Due.due(x, "P38 alike", x.alike(0, 1), 1, 0);
        Due.due(x, "P38 alike", x.alike(1, 0), 1, 0);
        Due.due(x, "P39 mirrored", x.mirrored(0, 1), 0, 0);
        Due.due(x, "P29 between", x.upperBetween(0, 1), 2, 0);
        Due.due(x, "P30 between", x.lowerBetween(0, 1), 1, 0);
        Due.due(x, "P9 parts", x.parts(0), 2, 0);
        Due.due(x, "P10 part", x.part(0, 1), 4999, 0);
        Due.due(x, "P9 parts", x.parts(1), 3, 0);
        Due.due(x, "P10 part", x.part(1, 1), 4998, 0);
        Due.due(x, "P11 crossings", x.crossings(0), 5001, 0);
        Due.due(x, "P11 crossings", x.crossings(1), 5001, 0);
        Due.due(x, "P24 widest", x.widest(0), 9999, 0);
        Due.due(x, "P24 widest", x.widest(1), 9999, 0);
        Due.due(x, "P34 knot", x.knot(1, true), 9997, 0);
        Due.due(x, "P35 rings", x.rings(1, true), 1, 0);
        Due.due(x, "P36 colours", x.colours(1, false, 99), 99 * 99, 0);
        Due.due(x, "P36 colours", x.colours(1, true, 99), 99, 0);
    }

    private static void pairInMirror() {
        RopeDancers x = alikeOnes();
        x.flip(1);
        Due.due(x, "P28 apart", x.apart(0, 1), 9999 * 14996, 0);
        Due.due(x, "P37 beside", x.beside(0, 1), 9999 * 4998, 0);
        Due.due(x, "P38 alike", x.alike(0, 1), 0, 0);
        Due.due(x, "P39 mirrored", x.mirrored(0, 1), 1, 0);
        Due.due(x, "P39 mirrored", x.mirrored(1, 0), 1, 0);
        // another call between, that no answer is that of a call ahead
        x.callers(0, 0);
        Due.due(x, "P29 between, one below 0", x.upperBetween(0, 1), 0, 0);
        x.callers(0, 0);
        Due.due(x, "P29 between, one below 0", x.upperBetween(1, 0), 0, 0);
        x.callers(0, 0);
        Due.due(x, "P30 between, one below 0", x.lowerBetween(0, 1), 1, 0);
        x.flip(0);
        Due.due(x, "P38 alike, both below 0", x.alike(0, 1), 1, 0);
        Due.due(x, "P37 beside, both below 0", x.beside(0, 1), 9999 * 14996, 0);
        Due.due(x, "P29 between, both below 0", x.upperBetween(0, 1), -2, 0);
    }

    private static void wholes() {
        RopeDancers x = Due.with("hall slips 0;dance a tu;dance b tu;dance c tu");
        grow(x, 0, 2, 9999);
        grow(x, 1, 2, 9998);
        Due.due(x, "P21 three CALLS for each but the last, which is two", x.untie(0), 3 * 9999 - 1, 0);
        x.call(1, 2);
        // -1 by 9998
        Due.due(x, "P28 apart", x.apart(0, 1), 9999 * 9998 + 1, 0);
        Due.due(x, "P37 beside", x.beside(0, 1), 9999 * 9998 - 1, 0);
        Due.due(x, "P29 between", x.upperBetween(0, 1), 0, 0);
        x.call(1, 0);
        Due.due(x, "P28 apart from 9997 by 9998", x.apart(1, 0), 9999 * 9998 - 9997, 0);
        x.call(0, 2);
        x.call(0, 0);
        // 9997 by 9998, then the one of both upper and both lower ones, then 9998 by 9999
        Due.due(x, "P28 apart", x.apart(0, 1), 1, 0);
        Due.due(x, "P29 between", x.upperBetween(0, 1), 9997 + 9998, 0);
        Due.due(x, "P30 between", x.lowerBetween(1, 0), 9998 + 9999, 0);
    }

    /** Which of two is the less one is told by products, in either order and by either sign. */
    private static void between() {
        for (int whole : new int[] {9999, 9998, 7000, 5003, 4097, 3000}) {
            RopeDancers x = Due.with("hall slips 0;dance a tu;dance b tu;dance c tu");
            grow(x, 0, 2, whole);
            x.reset(1);
            x.join(1, 0);
            x.call(1, 1);
            // n by 1 and n less 1 by 1, n less 1 by n and n less 2 by n less 1, and less by one each time
            betweenBoth(x, 2 * whole - 1, 2);
            for (int i = 0; i < 3; i++) {
                for (int d = 0; d < 2; d++) {
                    x.call(d, 2);
                    x.call(d, 0);
                }
                betweenBoth(x, x.upper(0) + x.upper(1), x.lower(0) + x.lower(1));
            }
        }
    }

    private static void betweenBoth(RopeDancers x, int upper, int lower) {
        for (int sign = 1; sign >= -1; sign -= 2) {
            x.callers(0, 0);
            Due.due(x, "P29 between", x.upperBetween(0, 1), sign * upper, 0);
            x.callers(0, 0);
            Due.due(x, "P29 between", x.upperBetween(1, 0), sign * upper, 0);
            Due.due(x, "P30 between", x.lowerBetween(0, 1), lower, 0);
            Due.due(x, "P30 between", x.lowerBetween(1, 0), lower, 0);
            x.flip(0);
            x.flip(1);
        }
    }

    /** What a JOIN would make is above 9,999 by far. */
    private static void noRoom() {
        RopeDancers x = alikeOnes();
        grow(x, 2, 1, 9999);
        Due.due(x, "P61 far above", x.join(0, 2), -1, 3);
        x.flip(2);
        Due.due(x, "P61 far below", x.join(0, 2), -1, 3);
        Due.is(x, "P61 it stays", 0, 9999, 4999);
        x.call(0, 2);
        Due.due(x, "P58 below", x.call(0, 1), -1, 3);
        Due.is(x, "P58 it stays", 0, -4999, 9999);
    }
}
