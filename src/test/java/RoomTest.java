import java.lang.management.ManagementFactory;

/** No call makes objects or arrays: the room that a run takes is that of its objects alone. */
public final class RoomTest {
    private static final int BYTES_OF_AN_OBJECT = 100_000;
    private static final int BYTES_OF_ALL_CALLS = 4_096;
    private static final Checks CHECKS = new Checks();

    public static void main(String[] args) {
        dearCalls();
        newObject();
        CHECKS.end();
    }

    private static long allocated() {
        com.sun.management.ThreadMXBean bean =
                (com.sun.management.ThreadMXBean) ManagementFactory.getThreadMXBean();
        return bean.getThreadAllocatedBytes(Thread.currentThread().getId());
    }

    private static void newObject() {
        long before = allocated();
        ProcessingMemory x = new ProcessingMemory();
        long taken = allocated() - before;
        CHECKS.due("a new object takes " + taken + " bytes, finish", x.finish(), 0);
        CHECKS.due("a new object takes " + taken + " bytes", taken <= BYTES_OF_AN_OBJECT, true);
    }

    private static void dearCalls() {
        StringBuilder text = new StringBuilder("banks 8 rows 16 columns 8; cache 8;");
        for (int batch = 0; batch < 6; batch++) {
            text.append("batch 0 1 2 3 4 5 6 7:").append("barrier;".repeat(10)).append("end;");
        }
        ProcessingMemory x = Checks.with(text.toString());
        Checks.submitAll(x, 0, 1, 2, 3, 4, 5);
        callAll(x, 1);
        long before = allocated();
        callAll(x, 30);
        long taken = allocated() - before;
        CHECKS.due("the calls took " + taken + " bytes", taken <= BYTES_OF_ALL_CALLS, true);
    }

    private static void callAll(ProcessingMemory x, int times) {
        for (int i = 0; i < times; i++) {
            x.bestFinish();
            x.bestOrder(5);
            x.reorder();
            x.budgetFor(Integer.MAX_VALUE);
            x.wouldBe(7, 3, 7);
            x.wouldFinish(0);
            x.longestChain();
            x.hostWrite(i % 8, i % 16, 7, i);
            x.flushAll();
            x.save(0);
            x.run(1);
            x.restore(0);
        }
    }
}
