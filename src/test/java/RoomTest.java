import com.sun.management.ThreadMXBean;
import java.lang.management.ManagementFactory;

/** All calls of one run live in one room: an object is small, and no call takes any room. */
public final class RoomTest {
    private static final int OBJECTS = 40;
    private static final int ROUNDS = 26;
    private static final int BYTES_OF_AN_OBJECT = 16_384;

    public static void main(String[] args) {
        Due due = new Due("RoomTest");
        ThreadMXBean threads = (ThreadMXBean) ManagementFactory.getThreadMXBean();
        TellKeys[] all = new TellKeys[OBJECTS];
        work(new TellKeys());
        room(threads);
        long start = room(threads);
        for (int i = 0; i < OBJECTS; i++) {
            all[i] = new TellKeys();
        }
        long made = room(threads);
        for (TellKeys x : all) {
            work(x);
        }
        long done = room(threads);
        due.holds("an object takes " + (made - start) / OBJECTS + " bytes", made - start <= OBJECTS * BYTES_OF_AN_OBJECT);
        // a reading of the room may take a little itself
        due.holds("calls take " + (done - made) + " bytes", done - made <= 4096);
        due.end();
    }

    private static long room(ThreadMXBean threads) {
        return threads.getThreadAllocatedBytes(Thread.currentThread().getId());
    }

    /** As many calls as an object is made for, at most. */
    private static void work(TellKeys x) {
        x.sheet(0, 2, 24);
        for (int i = 0; i < 6; i++) {
            x.key(i % 4, 1);
            x.change(i, i % 4);
            x.door(i, i + 1, i);
            x.item(0, 2, 2 * i, i);
            x.item(0, 2, 2 * i + 1, 900);
        }
        for (int i = 0; i < ROUNDS; i++) {
            x.type(0x302d316c30L, 5);
            x.house();
            x.type(0x76303e313a35L, 6);
            x.week();
            x.visit(0, 1, i % 31);
            x.seen(1, 9, 0);
            x.reach(63);
            x.fits(-1, -1, 3);
            x.been(i % 4, i % 31, i % 100);
            x.look(i % 4, i % 31, 0);
            x.image();
            x.restore();
            x.asked(0, 2, 0, 6, -1);
            x.film(0, 2, 13);
            x.sheet(1, i % 3, 24);
            x.copy(0, 13, 0, 14, 5);
            x.copy(0, 14, 0, 13, 5);
            x.count(i % 6);
        }
    }
}
