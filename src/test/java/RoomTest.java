import java.lang.management.ManagementFactory;

/** An object is small, and its calls make no objects: all calls of a run live in one room. */
public final class RoomTest {
    // four calls each: with those that read the circle, not more than the 512 of an object
    private static final int ROUNDS = 100;
    private static final long MOST_BYTES_OF_AN_OBJECT = 6_000;
    // what the Java machine itself may make while it warms up, far less than one array a call
    private static final long MOST_BYTES_OF_ALL_CALLS = 4_000;

    private static final com.sun.management.ThreadMXBean BEAN =
            (com.sun.management.ThreadMXBean) ManagementFactory.getThreadMXBean();

    public static void main(String[] args) {
        Checks checks = new Checks();
        checks.part("room");
        long[] made = new long[3];
        measure(made);
        measure(made);
        System.out.println(made[0] + " bytes for an object, " + made[1] + " for " + 4 * ROUNDS + " calls");
        checks.holds("an object has at most " + MOST_BYTES_OF_AN_OBJECT + " bytes", made[0] <= MOST_BYTES_OF_AN_OBJECT);
        checks.holds("calls make nothing", made[1] <= MOST_BYTES_OF_ALL_CALLS);
        checks.end();
    }

    private static void measure(long[] made) {
        long id = Thread.currentThread().getId();
        long before = BEAN.getThreadAllocatedBytes(id);
        VouchFlow x = new VouchFlow();
        made[0] = BEAN.getThreadAllocatedBytes(id) - before;
        Checks.type(x, "9:12345:*>1>2>3>4>5;*>0>2>3>4>5;*>0>1>3>4>5;>0>1>2>4>5;!>0>1>2>3>5;!>6>7>8;!>7;!>8;!");
        x.circle();
        Checks.type(x, "9:1");
        before = BEAN.getThreadAllocatedBytes(id);
        for (int i = 0; i < ROUNDS; i++) {
            made[2] += x.digest() + x.fault() + x.circle() + x.together(511);
        }
        made[1] = BEAN.getThreadAllocatedBytes(id) - before;
    }
}
