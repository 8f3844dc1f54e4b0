import com.sun.management.ThreadMXBean;
import java.lang.management.ManagementFactory;

/** One run's room: what the dearest calls make, times all calls of an object, stays far below it. */
public final class RoomTest {
    private static final String GREAT = "pins 9;frames 8;rolls 3;clean 1 earns 3;clean 2 earns 2;clean 3 earns 1;foul 10;"
            + "worth 0-20 when down<2;worth down*3-6 when down>used;handicap 50-mean;joins 0 1;joins 1 2;";

    private static void dearCalls(NinepinAlley x, int turn) {
        x.clear();
        x.roll(turn % 10);
        x.ways(40, true);
        x.needs(40, true);
        for (int i = 0; i < 27; i++) {
            x.roll(0);
        }
        for (int f = 0; f < 9; f++) {
            x.tear(f, true);
        }
        x.fits(20, false);
        x.must(4, 20, false);
        x.keep(turn % 6);
        x.place(0);
        x.leaves(511);
        x.image();
    }

    public static void main(String[] args) {
        ThreadMXBean threads = (ThreadMXBean) ManagementFactory.getThreadMXBean();
        long id = Thread.currentThread().getId();
        NinepinAlley warm = Check.of(GREAT);
        dearCalls(warm, 0);
        long start = threads.getThreadAllocatedBytes(id);
        NinepinAlley x = new NinepinAlley();
        long made = threads.getThreadAllocatedBytes(id);
        Check.due("a new object's bytes, below 100,000: " + (made - start), made - start < 100000, true);
        Check.game(x, GREAT);
        dearCalls(x, 0);
        long first = threads.getThreadAllocatedBytes(id);
        Check.due("the first calls' bytes, below 400,000: " + (first - made), first - made < 400000, true);
        for (int turn = 0; turn < 60; turn++) {
            dearCalls(x, turn);
        }
        long all = threads.getThreadAllocatedBytes(id);
        Check.due("bytes of all later calls, below 50,000: " + (all - first), all - first < 50000, true);
        System.out.println((made - start) + ", " + (first - made) + ", " + (all - first) + " bytes");
        Check.end();
    }
}
