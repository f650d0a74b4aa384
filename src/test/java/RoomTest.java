import java.lang.management.ManagementFactory;

/**
 * All calls of a run live in one room from which nothing is cleared: rows are made with the object and used
 * again, so that the dearest calls make nothing at all.
 */
public final class RoomTest {
    private static final Check CHECK = new Check("RoomTest");
    private static final com.sun.management.ThreadMXBean THREADS =
            (com.sun.management.ThreadMXBean) ManagementFactory.getThreadMXBean();

    public static void main(String[] args) {
        String text = ("dealer 50;".repeat(8) + "rate 9;lot 3;buyin 1;rule open*price-age*(due+units);"
                + "sale 0 1 99 9 0;sale 1 2 98 8 0;sale 2 3 97 7 0;sale 3 0 96 9 0;sale 4 5 95 6 0;sale 5 6 94 7 1;"
                + "sale 6 7 93 5 1;sale 7 4 92 8 2;sale 1 3 91 5 2;sale 3 5 90 6 3;sale 5 7 89 6 3;");
        calls(Check.told(text), 40);
        long before = THREADS.getThreadAllocatedBytes(Thread.currentThread().getId());
        FailDesk desk = new FailDesk();
        long made = THREADS.getThreadAllocatedBytes(Thread.currentThread().getId()) - before;
        CHECK.due("bytes of a new object: " + made, made < 60_000 ? 1 : 0, 1);
        Check.tell(desk, text);
        before = THREADS.getThreadAllocatedBytes(Thread.currentThread().getId());
        calls(desk, 40);
        made = THREADS.getThreadAllocatedBytes(Thread.currentThread().getId()) - before;
        CHECK.due("bytes of all calls: " + made, made < 10_000 ? 1 : 0, 1);
        CHECK.end();
    }

    private static long calls(FailDesk desk, int times) {
        long sum = 0;
        for (int i = 0; i < times; i++) {
            sum += desk.foretold(30) + desk.without(3) + desk.most(0) + desk.most(1) + desk.ring(1) + desk.mean();
            sum += desk.parts(3) + desk.dealer(2, 6) + desk.of(4, 9) + desk.print() + desk.between(0, 1);
            sum += desk.night() + desk.undo() + desk.mark(7 + i) + desk.stock(i % 8, i);
        }
        return sum;
    }
}
