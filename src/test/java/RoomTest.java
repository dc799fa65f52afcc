import java.lang.management.ManagementFactory;

/** What a run makes stays far below the room that all calls of one run share. */
public final class RoomTest {
    /** The room is 7.3 million fields and elements; a run of the dearest calls stays under this many bytes. */
    private static final long MOST_BYTES = 1_000_000;

    public static void main(String[] args) {
        com.sun.management.ThreadMXBean threads =
            (com.sun.management.ThreadMXBean) ManagementFactory.getThreadMXBean();
        dearRun();
        long before = threads.getCurrentThreadAllocatedBytes();
        dearRun();
        long made = threads.getCurrentThreadAllocatedBytes() - before;
        if (made > MOST_BYTES) {
            System.out.println("a run made " + made + " bytes, at most " + MOST_BYTES + " are due");
            System.exit(1);
        }
    }

    /** 511 calls: every object, view and reader that there can be, each as large as it can be. */
    private static void dearRun() {
        GroupCursors x = new GroupCursors();
        for (int i = 0; i < 300; i++) {
            x.add(i, i, i);
        }
        x.commit();
        for (int i = 0; i < 30; i++) {
            x.view();
        }
        for (int i = 0; i < 60; i++) {
            x.cursor(i % 30, 2, i, 1, 0, 1000);
        }
        for (int i = 0; i < 60; i++) {
            x.take(i % 60, 50);
            x.best(i % 30, i % 3, i, i, 0);
        }
    }
}
