import java.lang.management.ManagementFactory;

/** The dearest calls make nothing, and an object takes little room. */
public final class RoomTest {
    private static final long OBJECT_BYTES = 16384;
    private static final int OBJECTS = 50;
    private static final int ROUNDS = 39;

    private static final com.sun.management.ThreadMXBean THREADS =
        (com.sun.management.ThreadMXBean) ManagementFactory.getThreadMXBean();

    public static void main(String[] args) {
        if (!THREADS.isThreadAllocatedMemorySupported()) {
            System.out.println("this machine does not tell what a thread makes");
            return;
        }
        THREADS.setThreadAllocatedMemoryEnabled(true);
        long sum = dearCalls(new PlainLines());
        long before = THREADS.getCurrentThreadAllocatedBytes();
        for (int i = 0; i < OBJECTS; i++) {
            sum += dearCalls(new PlainLines());
        }
        long made = THREADS.getCurrentThreadAllocatedBytes() - before;
        System.out.println(made / OBJECTS + " bytes an object with 508 calls, sum " + sum);
        Due.isTrue("an object with all its calls stays under " + OBJECT_BYTES + " bytes",
            made < OBJECT_BYTES * OBJECTS);
        Due.end();
    }

    private static long dearCalls(PlainLines x) {
        long sum = 0;
        x.wide(64);
        for (int round = 0; round < ROUNDS; round++) {
            sum += x.size(round % 2 == 0 ? 32 : 16);
            sum += x.choose(12);
            sum += x.sheet(round % 4, round % 3, 40);
            sum += x.send(round % 4, round, 0xFFFF, 0);
            sum += x.read(round % 4, round % 3);
            sum += x.nearest(round % 4, round % 3, 0);
            sum += x.count(8);
            sum += x.across(8);
            sum += x.fails(8);
            sum += x.passed() + x.path(0) + x.tell(31) + x.weigh(31);
        }
        return sum;
    }
}
