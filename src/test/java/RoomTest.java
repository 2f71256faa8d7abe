import java.lang.management.ManagementFactory;

/**
 * What a run makes stays small: the rows are made once and used again. Bytes are what a test can
 * measure; the room has 7.3 million fields and elements, and none takes less than one byte.
 */
public final class RoomTest {
    private static final Dues D = new Dues("RoomTest");
    private static final long MOST_BYTES = 1_000_000;

    public static void main(String[] args) {
        // The first round loads classes; the second is the one that counts.
        for (int round = 0; round < 2; round++) {
            long[] made = {bytesOfDoings(), bytesOfQuestions(), bytesOfObjects()};
            for (int i = 0; i < made.length && round == 1; i++) {
                D.due("run " + i + " makes little, not " + made[i] + " bytes", made[i] < MOST_BYTES * (i == 2 ? 6 : 1), true);
            }
        }
        D.end();
    }

    private static long made() {
        return ((com.sun.management.ThreadMXBean) ManagementFactory.getThreadMXBean())
            .getThreadAllocatedBytes(Thread.currentThread().getId());
    }

    private static long bytesOfDoings() {
        long before = made();
        OrderKeeper k = new OrderKeeper();
        for (int t = 0; t < 60; t++) {
            k.task(t);
        }
        for (int i = 0; i < 330; i++) {
            if (i % 3 == 0) {
                k.gather(59 - i % 50, i % 7);
                k.commit();
            } else {
                k.weigh(i % 60, i);
            }
        }
        return made() - before;
    }

    private static long bytesOfQuestions() {
        long before = made();
        OrderKeeper k = new OrderKeeper();
        for (int t = 0; t < 60; t++) {
            k.task(t);
        }
        for (int t = 59; t > 0; t--) {
            k.tie(t, t - 1);
        }
        for (int i = 0; i < 390; i++) {
            switch (i % 6) {
                case 0: k.plan(1 + i % 8); break;
                case 1: k.tie(0, 59); break;
                case 2: k.critical(59); break;
                case 3: k.count(6); break;
                case 4: k.time(i % 60, 0); break;
                default: k.check(); break;
            }
        }
        return made() - before;
    }

    /** As many objects as a run could have calls, were each call a constructor's. */
    private static long bytesOfObjects() {
        long before = made();
        for (int i = 0; i < 512; i++) {
            new OrderKeeper().task(i);
        }
        return made() - before;
    }
}
