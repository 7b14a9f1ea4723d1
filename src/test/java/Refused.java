import java.util.function.IntToLongFunction;

/** Calls at the bounds of a number that they take: refused on the one side, not on the other. */
final class Refused {
    private static final int LEAST = Integer.MIN_VALUE;
    private static final int GREATEST = Integer.MAX_VALUE;

    private Refused() {
    }

    /** By 1 below dance 0 and behind the last; at both it isn't. */
    static void byDance(RopeDancers x, String call, long answer, IntToLongFunction by) {
        int last = x.size(1) - 1;
        outside(x, call + " of dance", answer, 1, by, LEAST, -1, last + 1, GREATEST);
        inside(x, call + " of dance", by, 0, last);
    }

    /** By 2 below the least and above the greatest; at both it isn't. */
    static void byNumber(RopeDancers x, String call, long answer, int least, int greatest, IntToLongFunction by) {
        outside(x, call, answer, 2, by, LEAST, least - 1, greatest + 1, GREATEST);
        inside(x, call, by, least, greatest);
    }

    /** By 1 below 0 and behind the last; at both it isn't. */
    static void byPlace(RopeDancers x, String call, long answer, int count, IntToLongFunction by) {
        outside(x, call + " at", answer, 1, by, LEAST, -1, count, GREATEST);
        if (count > 0) {
            inside(x, call + " at", by, 0, count - 1);
        }
    }

    static void outside(RopeDancers x, String call, long answer, int trouble, IntToLongFunction by, int... numbers) {
        for (int number : numbers) {
            otherTrouble(x, trouble);
            Due.due(x, call + " " + number, by.applyAsLong(number), answer, trouble);
        }
    }

    /** A call that is refused by another one, or what tells nothing would be overlooked. */
    private static void otherTrouble(RopeDancers x, int trouble) {
        if (trouble == 2) {
            x.upper(-1);
        } else {
            x.hall(-1);
        }
    }

    private static void inside(RopeDancers x, String call, IntToLongFunction by, int... numbers) {
        for (int number : numbers) {
            x.hall(-1);
            by.applyAsLong(number);
            Due.due(call + " " + number + ", trouble", x.trouble(), 0);
        }
    }
}
