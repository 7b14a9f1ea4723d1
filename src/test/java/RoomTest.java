import java.lang.management.ManagementFactory;

/** What calls make: rows stand in the constructor, so a run of calls asks for hardly any room. */
final class RoomTest {
    private static final com.sun.management.ThreadMXBean THREADS =
        (com.sun.management.ThreadMXBean) ManagementFactory.getThreadMXBean();

    private RoomTest() {
    }

    private static long made() {
        return THREADS.getThreadAllocatedBytes(Thread.currentThread().getId());
    }

    public static void main(String[] args) {
        made();
        // the machine's own making, at the first use of each class, isn't counted
        for (int sort = 0; sort < 16; sort++) {
            dear(ComeTest.at9999(), sort, 0);
        }
        long before = made();
        RopeDancers y = new RopeDancers();
        long once = made() - before;
        Due.due("a new object is small: " + once, once < 16000, true);
        for (int sort = 0; sort < 16; sort++) {
            RopeDancers x = ComeTest.at9999();
            long begun = made();
            long sum = 0;
            for (int i = 0; i < 30; i++) {
                sum += dear(x, sort, i);
            }
            long made = made() - begun;
            // 30 calls of its 512
            Due.due("calls of sort " + sort + " make " + made + ", " + sum, made < 6000, true);
        }
        Due.due("it is used no further", y.size(6), 0);
        Due.end("RoomTest");
    }

    private static long dear(RopeDancers x, int sort, int i) {
        switch (sort) {
            case 0:
                return x.untie(0);
            case 1:
                return x.come(0, 1, 7);
            case 2:
                return x.comeRow(0, 1, 7);
            case 3:
                return x.reach(7);
            case 4:
                return x.callers(0, 8) + x.callsBy(0, 8);
            case 5:
                return x.rungUpper(200, 12000 + i);
            case 6:
                return x.kinds(199, true);
            case 7:
                return x.mean(0, 8, true) + x.odds(1, 8, 0, 1, false);
            case 8:
                return x.fits() + x.ask() + x.askLeaves() + x.could() + x.surely() + x.fitAt(0);
            case 9:
                return x.trace(0) + x.sameDance(0, 1) + x.again(1);
            case 10:
                return x.drawnUpper(0, i, 12);
            case 11:
                return x.call(0, 2) + (x.undo() ? 1 : 0);
            case 12:
                return x.image() + (x.back(0) ? 1 : 0);
            case 13:
                return x.upperBetween(0, 1) + x.lowerBetween(1, 2);
            case 14:
                return x.feed(i, i, i, i, i);
            default:
                return x.hall(i) + x.fault();
        }
    }
}
