import java.lang.management.ManagementFactory;

/**
 * 512 of the dearest calls on the largest grounds, in runs of several kinds: they end soon, and
 * make no objects; all that an object needs is made with it.
 */
public final class LongRunTest {
    private static final int CALLS = 512;
    private static final long BYTES_OF_AN_OBJECT = 400_000;
    private static final long BYTES_OF_A_RUN = 1_000;
    private static final com.sun.management.ThreadMXBean THREADS =
        (com.sun.management.ThreadMXBean) ManagementFactory.getThreadMXBean();

    private static int wrong = 0;
    private static long sum = 0;

    private static long bytes() {
        return THREADS.getThreadAllocatedBytes(Thread.currentThread().getId());
    }

    private static void check(String what, long got, long most) {
        if (got > most) {
            wrong++;
            System.out.println(what + ": " + got + ", at most " + most + " are due");
        }
    }

    /** An 8 by 8 ground in which four DOWN are open ahead of nearly every CELL. */
    private static LozengeGrounds widest() {
        LozengeGrounds x = new LozengeGrounds();
        x.ground(8, 8);
        for (int i = 0; i < 4; i++) {
            x.set(4 * i, false);
            x.set(112 + 4 * i + 3, false);
        }
        return x;
    }

    private static LozengeGrounds largestHexagon() {
        LozengeGrounds x = new LozengeGrounds();
        x.hexagon(4, 4, 4);
        return x;
    }

    private static void prepare(LozengeGrounds x) {
        x.lay(0, 0);
        x.lay(1, x.layings() - 1);
        x.lay(2, x.layings() / 2);
    }

    private static long call(LozengeGrounds x, int run, int i) {
        switch (run) {
            case 0:
                return x.reach(i % 3);
            case 1:
                return i % 2 == 0 ? x.weight(i % 64, i % 3, i % 99) : x.layDearest(3);
            case 2:
                return i % 2 == 0 ? x.set(i % 4 < 2 ? 55 : 54, i % 8 > 3) : x.layings();
            case 3:
                return x.span(i % 3, i % 2 == 0);
            case 4:
                return x.forced();
            case 5:
                return i % 2 == 0 ? x.set(i % 128, false) : x.barred(i % 64);
            case 6:
                return i % 2 == 0 ? x.end(0, i % 4 == 0) : x.apart(0, 2);
            case 7:
                return i % 3 == 0 ? x.lay(3, i * 400L) : i % 3 == 1 ? x.place(3) : x.mirror(3);
            case 8:
                return i % 3 == 0 ? x.hexagon(4, 4, 4) : i % 3 == 1 ? x.lay(0, i) : x.reach(0);
            default:
                return i % 3 == 0 ? x.ground(8, 8) : i % 3 == 1 ? x.most() : x.product(4, 4, 4);
        }
    }

    private static void run(LozengeGrounds x, int run) {
        prepare(x);
        long before = bytes();
        for (int i = 0; i < CALLS; i++) {
            sum += call(x, run, i);
        }
        long made = bytes() - before;
        check("bytes made by run " + run, made, BYTES_OF_A_RUN);
    }

    public static void main(String[] args) {
        long before = bytes();
        sum += new LozengeGrounds().size(0);
        long made = bytes() - before;
        check("bytes made by an object", made, BYTES_OF_AN_OBJECT);
        long start = System.nanoTime();
        for (int run = 0; run < 10; run++) {
            run(widest(), run);
            run(largestHexagon(), run);
        }
        long seconds = (System.nanoTime() - start) / 1_000_000_000L;
        check("seconds", seconds, 60);
        System.out.println("20 runs of " + CALLS + " calls (" + sum + ") in " + seconds + " s, "
            + wrong + " faults");
        if (wrong != 0) {
            System.exit(1);
        }
    }
}
