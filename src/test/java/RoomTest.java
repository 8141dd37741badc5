import java.lang.management.ManagementFactory;

/** What a run makes stays small: a board's rows are made once, and its calls make nothing. */
public final class RoomTest {
    private static final int CALLS = 500;
    /** Bytes: about a hundredth of the room of 7.3 million fields and elements. */
    private static final long MOST_FOR_A_BOARD = 100_000;
    private static final long MOST_FOR_ALL_CALLS = 20_000;

    private static int sum = 0;

    public static void main(String[] args) {
        com.sun.management.ThreadMXBean threads =
                (com.sun.management.ThreadMXBean) ManagementFactory.getThreadMXBean();
        for (int round = 0; round < 2; round++) {
            long start = threads.getCurrentThreadAllocatedBytes();
            DogBoard b = new DogBoard();
            long made = threads.getCurrentThreadAllocatedBytes();
            run(b);
            long end = threads.getCurrentThreadAllocatedBytes();
            // In the first round the machine loads its classes.
            if (round == 1) {
                Check.isTrue("a board takes " + (made - start) + " bytes", made - start <= MOST_FOR_A_BOARD);
                Check.isTrue("its calls take " + (end - made) + " bytes", end - made <= MOST_FOR_ALL_CALLS);
            }
        }
        Check.isTrue("the calls are made", sum != 0);
        Check.end("RoomTest");
    }

    private static void run(DogBoard b) {
        Check.write(b, "Md015205060h03s106015+s206013-x0506+h24f0105");
        for (int call = 44; call < CALLS; call += 10) {
            sum += b.load();
            sum += b.lose(15, 1, 0, 10) + b.sight(0, 0, 15, 0, false);
            sum += b.simulate(call, 60) + b.runScript(3, 100001_100001_700020L);
            sum += b.save(0) + b.restore(0) + b.hours(3) + b.undo() + b.watch();
        }
    }
}
