import java.lang.management.ManagementFactory;

/** Calls make nothing: all of a run lives in one room that is never swept. */
public final class RoomTest {
    private static final String TEXT = "belt slowest 3 999;horse 30 200 60;horse 29 100 0;horse 5 200 9;horse 20 10 60;"
            + "horse 25 30 30;horse 30 120 1;beside 0 1 10;tide 0,40,20,20;cart 20;cart 30;cart 5;cart 60;due 120;";

    public static void main(String[] args) {
        com.sun.management.ThreadMXBean bean = (com.sun.management.ThreadMXBean) ManagementFactory.getThreadMXBean();
        run(Check.ferry(TEXT));
        long before = bean.getCurrentThreadAllocatedBytes();
        OatFerry x = new OatFerry();
        long made = bean.getCurrentThreadAllocatedBytes() - before;
        Check.feed(x, TEXT);
        x.ferry();
        before = bean.getCurrentThreadAllocatedBytes();
        run(x);
        long called = bean.getCurrentThreadAllocatedBytes() - before;
        System.out.println("a new object: " + made + " bytes, a run of calls: " + called + " bytes");
        Check.due("a new object stays below 20000 bytes", made < 20000 ? 1 : 0, 1);
        // Some bytes are the measuring's own.
        Check.due("a run makes next to nothing", called < 2000 ? 1 : 0, 1);
        Check.end();
    }

    private static void run(OatFerry x) {
        for (int i = 0; i < 12; i++) {
            x.put(i % 6, i % 3);
            x.cross(i);
            x.soonest(i, 0);
            x.cheapest(i, 0);
            x.twice(i, 0, 0);
            x.best(i, 0);
            x.worth(i, i % 6);
            x.carts(-1);
            x.tell(0, 1, 2, i, i);
            x.pulls(0);
            x.sham();
            x.judge();
            x.keep(0);
            x.goBack(0);
            x.drift(9);
            x.told(12);
            x.horse(0, 6);
            x.feed(8, i);
            x.ferry();
        }
    }
}
