import java.lang.management.ManagementFactory;

/** All calls of a run live in one room: an object makes all its rows when it is made, and none at a call. */
public final class RoomTest {
    private static final int CALLS = 512, MOST_FOR_AN_OBJECT = 16_384, MOST_FOR_CALLS = 4_096;

    public static void main(String[] args) {
        if (!(ManagementFactory.getThreadMXBean() instanceof com.sun.management.ThreadMXBean)) {
            System.out.println("this machine does not tell what is made; nothing is asked");
            return;
        }
        LeaningWalls x = widest();
        dearest(x, 1);
        made();
        long before = made();
        LeaningWalls y = new LeaningWalls();
        long between = made();
        dearest(x, CALLS);
        long behind = made();
        Check.due("an object is small: " + (between - before), between - before <= MOST_FOR_AN_OBJECT ? 1 : 0, 1);
        Check.due("calls make nothing: " + (behind - between), behind - between <= MOST_FOR_CALLS ? 1 : 0, 1);
        Check.due("it is as told", y.count(0), 5);
        Check.end();
    }

    private static long made() {
        return ((com.sun.management.ThreadMXBean) ManagementFactory.getThreadMXBean())
            .getThreadAllocatedBytes(Thread.currentThread().getId());
    }

    /** As many families and walls as can be, and as many ways to share. */
    private static LeaningWalls widest() {
        return Check.laid("f0,12,99;f3,12,99;f2,12,99;f4,12,99;f0,12,99;f3,12,99;"
            + "w0,1;w0,2;w0,3;w0,4;w1,2;w2,3;w3,4;w4,5;t0,20;");
    }

    private static void dearest(LeaningWalls x, int times) {
        for (int i = 0; i < times; i++) {
            x.best(0, 14, 4);
            x.all(5);
            x.enough(3, 14);
            x.nextTo(4, 5);
            x.gone(0);
            x.behind(60, 0, 0);
            x.see(7, 50, 30);
            x.whoSick();
            x.kinds(2);
            x.idle(0, 99, 5, 1);
            x.year(9999, 60, 0);
            x.fault();
            x.sick(0);
            x.pass(1);
            x.share(0, 0, 1);
            x.keep();
            x.undo();
        }
    }
}
