/** Promises 21 to 24: untie, turnsOf, untieAt, widest. */
final class UntieTest {
    private UntieTest() {
    }

    public static void main(String[] args) {
        // 8 by 5, -3 by 1, 0 by 1, 1 by 0, -1 by 2
        RopeDancers x = Due.with("hall slips 0;dance a ttrtttrtt;dance b uuu;dance c tu;dance d r;dance e ttr");
        // 8/5 -5/8 3/8 -8/3 -5/3 -2/3 1/3 -3/1 -2/1 -1/1 0/1
        way(x, 0, "rtrtttrttt", 8);
        way(x, 1, "ttt", 1);
        way(x, 2, "", 1);
        way(x, 3, "r", 1);
        // -1/2 1/2 -2/1 -1/1 0/1
        way(x, 4, "trtt", 2);
        // 1/1 -1/1 0/1; 2/5 -5/2 -3/2 -1/2 1/2 -2/1 -1/1 0/1; 1/2 -2/1 -1/1 0/1
        RopeDancers y = Due.with("hall slips 0;dance a t;dance b ttrtttr;dance c ttrtt");
        way(y, 0, "rt", 1);
        Due.due("P21 -2 by 5", y.upper(1), -2);
        y.flip(1);
        way(y, 1, "rtttrtt", 5);
        y.call(2, 1);
        way(y, 2, "rtt", 2);
        great();
        wrong(x);
        Due.end("UntieTest");
    }

    private static void way(RopeDancers x, int d, String figures, int widest) {
        int turns = 0;
        for (int i = 0; i < figures.length(); i++) {
            int figure = "tur".indexOf(figures.charAt(i));
            turns += figure == 2 ? 1 : 0;
            Due.due(x, "P23 untieAt " + d + " " + i, x.untieAt(d, i), figure, 0);
        }
        Due.due(x, "P21 untie " + d, x.untie(d), figures.length(), 0);
        Due.due(x, "P22 turnsOf " + d, x.turnsOf(d), turns, 0);
        Due.due(x, "P24 widest " + d, x.widest(d), widest, 0);
        for (int i : new int[] {figures.length(), figures.length() + 1, -1, Integer.MIN_VALUE, Integer.MAX_VALUE}) {
            Due.due(x, "P23 untieAt " + d + " " + i, x.untieAt(d, i), -1, 1);
        }
    }

    /** The longest ways: of n by 1 each lower number takes a turn and two twists. */
    private static void great() {
        RopeDancers x = Due.with("hall slips 0;dance a tttttttttttt;dance b tttttttttttt");
        for (int i = 0; i < 13; i++) {
            x.join(i % 2, 1 - i % 2);
        }
        int n = x.upper(0);
        Due.due("P21 great", n, 7320);
        // n/1 -1/n (n-1)/n, then -k/(k-1) -1/(k-1) (k-2)/(k-1) by each k from n down to 2: n turns, 2n - 1 twists
        Due.due("P21 great", x.untie(0), 3 * n - 1);
        Due.due("P22 great", x.turnsOf(0), n);
        Due.due("P23 great, the first", x.untieAt(0, 0), 2);
        Due.due("P23 great, the last", x.untieAt(0, 3 * n - 2), 0);
        Due.due(x, "P23 great, none", x.untieAt(0, 3 * n - 1), -1, 1);
        Due.due("P24 great", x.widest(0), n);
        x.flip(0);
        Due.due("P21 great, below 0", x.untie(0), n);
        Due.due("P22 great, below 0", x.turnsOf(0), 0);
        Due.due("P24 great, below 0", x.widest(0), 1);
        Due.due("P6 it is not untied by that", x.upper(0), -n);
    }

    private static void wrong(RopeDancers x) {
        for (int d : new int[] {-1, 5, Integer.MIN_VALUE, Integer.MAX_VALUE}) {
            Due.due(x, "P21 untie " + d, x.untie(d), -1, 1);
            Due.due(x, "P22 turnsOf " + d, x.turnsOf(d), -1, 1);
            Due.due(x, "P23 untieAt " + d, x.untieAt(d, 0), -1, 1);
            Due.due(x, "P24 widest " + d, x.widest(d), -1, 1);
        }
    }
}
