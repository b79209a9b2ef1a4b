import java.lang.management.ManagementFactory;

/** What a run makes: the rows of one object, and nothing by its calls. */
public final class RoomTest {
    private static final com.sun.management.ThreadMXBean THREADS =
        (com.sun.management.ThreadMXBean) ManagementFactory.getThreadMXBean();

    public static void main(String[] args) {
        Check check = new Check("RoomTest");
        dearRun(new LampsListen());
        long before = made();
        LampsListen x = new LampsListen();
        long atFirst = made();
        dearRun(x);
        long atLast = made();
        check.holds("an object is small: " + (atFirst - before), atFirst - before < 400_000);
        check.holds("its calls make nothing: " + (atLast - atFirst), atLast - atFirst < 20_000);
        check.end();
    }

    private static long made() {
        return THREADS.getThreadAllocatedBytes(Thread.currentThread().getId());
    }

    private static void dearRun(LampsListen x) {
        for (int l = 0; l < 10; l++) {
            x.feed(8, Check.packed("lamp 10 ".getBytes(), 0, 8));
            x.feed(5, Check.packed((10 + 3 * l + " 9 ").getBytes(), 0, 5));
            x.feed(2, Check.packed("1;".getBytes(), 0, 2));
        }
        x.quay();
        x.signal(0);
        x.signal(1023);
        for (int k = 0; k < 50; k++) {
            x.weather(0, k % 10);
            x.round(0);
            x.lured(0, 1023, -1, 50);
            x.apart(-1, 5, 9, k);
            x.fewest(0, 1023, 9, 2);
            x.alone(-1);
            x.tuned(50, 1, 10, 9);
            x.run(300);
            x.keep(0);
            x.goBack(0);
        }
    }
}
