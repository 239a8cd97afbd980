import java.lang.management.ManagementFactory;

/** What a run of the dearest calls makes must stay far within the room of one run. */
public final class RoomTest {
    private static final int CALLS = 512;
    /** 7.3 million elements of four bytes each are the room; a third of it is asked for here. */
    private static final long MOST_BYTES = 10_000_000L;

    private RoomTest() {
    }

    public static void main(String[] args) {
        warm();
        growing();
        manyFunctions();
        manyObjects();
        Check.finish("RoomTest");
    }

    private static long made() {
        return ((com.sun.management.ThreadMXBean) ManagementFactory.getThreadMXBean())
            .getThreadAllocatedBytes(Thread.currentThread().getId());
    }

    /** What loading classes makes is none of the program's. */
    private static void warm() {
        QuotientSums q = Check.told("own f;times g f one;");
        q.hyper(6, 7, 100);
        q.common(7, 100);
        made();
    }

    /** Each call asks for a little more than the rows have. */
    private static void growing() {
        QuotientSums q = new QuotientSums();
        q.bound(200000);
        long before = made();
        for (int i = 1; i <= CALLS; i++) {
            q.hyper(i % 4, (i + 1) % 4, Math.min(200000, i * 400));
        }
        small("growing sums", made() - before);
    }

    private static void manyFunctions() {
        QuotientSums q = Check.told("bound 200000;own f;times g f sigma;over h g;twist t phi 3;point p t h;times q p t;");
        long before = made();
        for (int i = 0; i < CALLS; i++) {
            q.modulus(2 + i * 1000);
            q.set(6, 1, i, -i);
            q.hyper(i % 12, i * 7 % 12, 200000 - i % 100);
            q.common(i * 5 % 12, 200000 - i);
        }
        small("many functions", made() - before);
    }

    private static void manyObjects() {
        long before = made();
        for (int i = 0; i < CALLS; i++) {
            QuotientSums q = new QuotientSums();
            Check.due("sum of a new object", q.sum(0, 100), 100);
        }
        small("many objects", (made() - before) / 2);
    }

    private static void small(String what, long bytes) {
        System.out.println(what + ": " + bytes + " bytes");
        Check.due(what + " makes more than the room has", bytes > MOST_BYTES, false);
    }
}
