import com.sun.management.ThreadMXBean;
import java.lang.management.ManagementFactory;

/** The room of a run: the calls make no objects, so what a run makes is what its constructor makes. */
final class RoomTest {
    private static final int CALLS = 512;
    private static final long FOR_THE_MEASURING_ITSELF = 4096;

    static void run() {
        Check.test("the room: calls make no objects", () -> {
            WeighingConverter x = Check.withWeights("1,1,1,1,1,1,1,1,1,1,1,1");
            mixedCalls(x, 2);
            ThreadMXBean threads = (ThreadMXBean) ManagementFactory.getThreadMXBean();
            threads.getCurrentThreadAllocatedBytes();
            long before = threads.getCurrentThreadAllocatedBytes();
            mixedCalls(x, CALLS);
            long made = threads.getCurrentThreadAllocatedBytes() - before;
            Check.isTrue(made + " bytes were made", made <= FOR_THE_MEASURING_ITSELF);
        });
    }

    private static void mixedCalls(WeighingConverter x, int count) {
        for (int k = 0; k < count; k++) {
            x.sample(k, 3);
            x.hold(3);
            x.removeWeight(0);
            x.insertWeight(3, 1);
            x.sortWeights();
            x.convert();
            x.append('7');
            x.load();
            x.undo();
            x.digest();
        }
    }
}
