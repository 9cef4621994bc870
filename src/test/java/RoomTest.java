import java.lang.management.ManagementFactory;

/**
 * All calls of a run live in one room: some 600,000 objects and arrays, 7.3 million fields and elements.
 * A run of 512 calls, as dear as they can be made, must stay below half of it.
 */
public final class RoomTest {
    private static final long MOST_OBJECTS = 600000;
    private static final long MOST_ELEMENTS = 7300000;
    /** No object or array takes less than this, and (but for booleans) no field or element less than 4. */
    private static final int BYTES_OF_OBJECT = 16;
    private static final int BYTES_OF_ELEMENT = 4;

    private static final int STARTS = 24;
    private static final int QUESTIONS_BETWEEN_STARTS = 12;
    private static final int MOST_CALLS = 512;
    private static final int LONG_ENOUGH = 9;

    /** All numbers of the model, with denominators that have few common divisors. */
    private static final int[][] TOLD = {
        {0, 0, 0, 20, 19}, {0, 1, 0, 7, 18}, {1, 0, 0, 20, 19}, {1, 1, 1, 20, 17}, {1, 0, 1, 3, 13},
        {2, 0, 0, 20, 19}, {2, 0, 1, 19, 17}, {2, 1, 0, 17, 13}, {2, 1, 1, 19, 20}, {3, 0, 0, 19, 17},
        {3, 1, 0, 11, 19}, {4, 0, 0, 20, 19}, {4, 1, 1, 20, 17}, {4, 0, 1, 3, 13}, {5, 0, 0, 18, 13},
        {5, 1, 0, 20, 17}, {6, 0, 0, 19, 16},
    };
    /** All numbers that can be asked for: of each the lowest terms must be found. */
    private static final int[][] ASKED = {
        {0, 0, 0}, {0, 1, 0}, {1, 0, 0}, {1, 0, 1}, {1, 1, 0}, {1, 1, 1}, {2, 0, 0}, {3, 0, 0}, {4, 0, 0}, {4, 1, 0},
    };

    private final ExactFilter x = new ExactFilter();
    private int calls;
    private int longest;

    public static void main(String[] args) {
        // Loading classes takes room of its own, so the first run is not counted.
        new RoomTest().run();
        com.sun.management.ThreadMXBean threads =
                (com.sun.management.ThreadMXBean) ManagementFactory.getThreadMXBean();
        long thread = Thread.currentThread().getId();
        long before = threads.getThreadAllocatedBytes(thread);
        RoomTest test = new RoomTest();
        test.run();
        long bytes = threads.getThreadAllocatedBytes(thread) - before;
        long most = Math.min(MOST_OBJECTS * BYTES_OF_OBJECT, MOST_ELEMENTS * BYTES_OF_ELEMENT) / 2;
        System.out.println(test.calls + " calls took " + bytes + " bytes of " + most
                + ", the longest number has " + test.longest + " pieces");
        if (bytes > most || test.calls > MOST_CALLS || test.longest < LONG_ENOUGH) {
            System.exit(1);
        }
    }

    private void run() {
        x.begin(2);
        for (int[] row : TOLD) {
            x.set(row[0], row[1], row[2], row[3], row[4]);
        }
        calls = 1 + TOLD.length;
        for (int start = 0; start < STARTS; start++) {
            x.start();
            for (int step = 0; step < 4; step++) {
                x.predict();
            }
            for (int step = 0; step < 3; step++) {
                x.measure(19 - step, 17 - step);
            }
            for (int k = 0; k < QUESTIONS_BETWEEN_STARTS; k++) {
                int[] row = ASKED[k % ASKED.length];
                longest = Math.max(longest, x.pieces(row[0], row[1], row[2], 1));
            }
            calls += 1 + 4 + 3 + QUESTIONS_BETWEEN_STARTS;
        }
    }
}
