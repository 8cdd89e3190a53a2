import com.sun.management.ThreadMXBean;
import java.lang.management.ManagementFactory;

/**
 * All calls of a run live in one room of some 600,000 objects: so a new object is small, and some
 * 400 of the dearest calls stay far below that room.
 */
public final class RoomTest {
    private static final String FULLEST = "T5302233P433055P433044P433033P433022P433011R01R02R03R04R12R34";

    private static final ThreadMXBean THREADS = (ThreadMXBean) ManagementFactory.getThreadMXBean();
    private static int kept = 0;

    public static void main(String[] args) {
        Due due = new Due("RoomTest");
        for (int i = 0; i < 20; i++) run(new SurpriseTax());
        long id = Thread.currentThread().getId();
        long begin = THREADS.getThreadAllocatedBytes(id);
        SurpriseTax x = new SurpriseTax();
        long made = THREADS.getThreadAllocatedBytes(id);
        run(x);
        long end = THREADS.getThreadAllocatedBytes(id);
        due.holds("a new object takes less than 8 KB: " + (made - begin), made - begin < 8192);
        due.holds("a run of calls takes less than 1 MB: " + (end - made), end - made < 1 << 20);
        due.end();
    }

    private static void run(SurpriseTax x) {
        for (int i = 0; i < FULLEST.length(); i++) kept += x.write(FULLEST.charAt(i));
        kept += x.fault() + x.realm();
        for (int round = 0; round < 4; round++) {
            for (int p = 0; p < 5; p++) {
                kept += x.declare(p, 1) + x.tellOn(p, 1 - p) + x.tax(p, 2) + x.mean(p, true) + x.counsel(p);
                kept += x.least(p, 3, true) + x.joke(p, 4) + x.jokeAt(p, 4, 3) + x.roll(p, 3) + x.fair(p, 1, 2);
                kept += x.school(p, 0, 8, 12312301) + x.courier(p) + x.person(p, 3) + x.tales(2) + x.about(p);
            }
            kept += x.event(2) + x.undo() + x.event(1) + x.broke(1) + x.reform(3) + x.braced(2) + x.week(30);
            kept += x.keep(1) + x.again(1) + x.unroll() + (int) x.seed(round) + x.wipe() + x.fault();
        }
    }
}
