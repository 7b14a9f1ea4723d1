import java.util.NoSuchElementException;

/** Promises 65 to 67: led, size, trouble. */
final class ToldTest {
    private ToldTest() {
    }

    public static void main(String[] args) {
        led();
        sizes();
        troubles();
        Due.due("NONE", RopeDancers.NONE, -1);
        Due.end("ToldTest");
    }

    /** What led answers; -9 for a NoSuchElementException. */
    private static int ledBy(RopeDancers x, int i) {
        try {
            return x.led(i);
        } catch (NoSuchElementException e) {
            return -9;
        }
    }

    private static void led() {
        RopeDancers x = new RopeDancers();
        Due.due(x, "P65 no HALL", ledBy(x, 0), -9, 0);
        // 0/1, 2/1, 0/1, 1/0, 0/1
        RopeDancers y = Due.with("hall slips 0;dance a tu;dance b tt;dance c rr;dance d r;dance e uutt");
        int[] all = {0, 2, 4};
        for (int i = 0; i < 3; i++) {
            Due.due("P65 led " + i, ledBy(y, i), all[i]);
        }
        for (int i : new int[] {3, -1, Integer.MIN_VALUE, Integer.MAX_VALUE}) {
            Due.due("P65 led " + i, ledBy(y, i), -9);
        }
        y.reset(1);
        y.call(0, 0);
        y.call(3, 2);
        int[] then = {1, 2, 3, 4, -9};
        for (int i = 0; i < 5; i++) {
            Due.due("P65 led then " + i, ledBy(y, i), then[i]);
        }
        // neither it nor what it throws is a call that may be refused
        y.upper(7);
        ledBy(y, 0);
        Due.due("P65 trouble stays", y.trouble(), 1);
        y.upper(0);
        ledBy(y, 9);
        Due.due("P65 trouble stays", y.trouble(), 0);
    }

    private static void sizes() {
        RopeDancers x = Due.with("hall slips 33;dance a tu;dance b tt;unsure a 0;unsure a 1;unsure b 1;seen b 0 nw ne;seen b 2 ne nw");
        x.call(0, 0);
        x.call(1, 0);
        x.call(1, 1);
        x.call(1, 2);
        x.undo();
        x.feed(1, 2, 3, 4, 5);
        x.image();
        x.image();
        int[] sizes = {33, 2, 3, 2, 3, 2, 20};
        for (int what = 0; what < 7; what++) {
            Due.due("P66 size " + what, x.size(what), sizes[what]);
        }
        for (int what : new int[] {7, -1, Integer.MIN_VALUE, Integer.MAX_VALUE}) {
            Due.due("P66 size " + what, x.size(what), -1);
        }
        x.upper(9);
        Due.due(x, "P66 leaves trouble", x.size(1), 2, 1);
    }

    private static void troubles() {
        RopeDancers x = new RopeDancers();
        Due.due("P67 at first", x.trouble(), 0);
        x.upper(0);
        Due.due("P67 none such", x.trouble(), 1);
        Due.due("P67 told twice", x.trouble(), 1);
        x.hall(1);
        Due.due("P67 a number", x.trouble(), 2);
        Due.feed(x, "hall slips 0;dance a t;dance b u");
        Due.due("P67 feed leaves it", x.trouble(), 2);
        x.hall(32);
        Due.due("P67 it wasn't", x.trouble(), 0);
        for (int i = 0; i < 4; i++) {
            x.image();
        }
        Due.due("P67 no room", x.trouble(), 3);
        Due.feed(x, "no hall");
        Due.due("P67 feed leaves it", x.trouble(), 3);
        x.hall(7);
        Due.due("P67 a fault", x.trouble(), 4);
        x.fault();
        x.where();
        x.size(0);
        Due.due("P67 a fault still", x.trouble(), 4);
        x.reset(0);
        Due.due("P67 it wasn't", x.trouble(), 0);
        x.reset(0);
        Due.due("P67 not so", x.trouble(), 5);
        x.undo();
        x.undo();
        Due.due("P67 there is none", x.trouble(), 6);
        x.rungUpper(1, 2);
        Due.due("P67 there is none", x.trouble(), 6);
        x.ask();
        Due.due("P67 an answer of -2 isn't refused", x.trouble(), 0);
        for (int i = 0; i < 31; i++) {
            x.feed(0, 0, 0, 0, 0);
        }
        Due.due("P67 a feed beyond leaves it", x.trouble(), 0);
    }
}
