import java.lang.management.ManagementFactory;

/** A run's calls live in one room: an object is small, and its dearest calls make nothing more. */
public final class RoomTest {
    private static final int CALLS = 512;
    private static final long BYTES_OF_OBJECT = 128 * 1024;
    /** Texts of the measuring itself, not of the desk, may be made meanwhile. */
    private static final long BYTES_OF_CALLS = 64 * 1024;

    private final Check check = new Check("room");

    public static void main(String[] args) {
        RoomTest test = new RoomTest();
        test.newObject();
        test.dearCalls();
        test.check.end();
    }

    private static long bytesMade() {
        return ((com.sun.management.ThreadMXBean) ManagementFactory.getThreadMXBean())
                .getThreadAllocatedBytes(Thread.currentThread().getId());
    }

    private void newObject() {
        new HeapDesk();
        long before = bytesMade();
        new HeapDesk();
        long made = bytesMade() - before;
        check.due("a new object of " + made + " bytes is small", true, made < BYTES_OF_OBJECT);
    }

    private void dearCalls() {
        HeapDesk desk = new HeapDesk();
        round(desk, 0);
        desk = new HeapDesk();
        long before = bytesMade();
        for (int call = 0; call < CALLS; call += 16) {
            round(desk, call);
        }
        long made = bytesMade() - before;
        check.due("calls that made " + made + " bytes make next to nothing", true, made < BYTES_OF_CALLS);
    }

    private static void round(HeapDesk desk, int call) {
        desk.digit(1 + call / 16 % 12, 7);
        desk.analyse(2000);
        desk.frequency(1);
        desk.period(0);
        desk.options(2000);
        desk.option(2000, 99, 0);
        desk.heap(0, 9);
        desk.heap(1, 7);
        desk.lastLoses();
        desk.quotient(3);
        desk.heap(1, 0);
        desk.heap(0, 3);
        desk.classOf();
        desk.ofClass(0, 2);
        desk.wins(0);
        desk.play(0);
    }
}
