import com.sun.management.ThreadMXBean;
import java.lang.management.ManagementFactory;

/** All calls of a run live in one room: after the constructor no call makes an object; and none throws or fails to end. */
public final class RoomTest {
    private static final int MOST_BYTES_MADE = 200000;

    private RoomTest() {
    }

    public static void main(String[] args) {
        ThreadMXBean threads = (ThreadMXBean) ManagementFactory.getThreadMXBean();
        long id = Thread.currentThread().getId();
        dearCalls();
        long before = threads.getThreadAllocatedBytes(id);
        int answers = dearCalls();
        long made = threads.getThreadAllocatedBytes(id) - before;
        System.out.println("bytes made by a run: " + made + " (answers " + answers + ")");
        if (made > MOST_BYTES_MADE) {
            System.out.println("more than " + MOST_BYTES_MADE);
            System.exit(1);
        }
    }

    private static int dearCalls() {
        ShortPrayers x = new ShortPrayers();
        int sum = 0;
        x.word(1);
        x.word(2);
        for (int i = 0; i < 6; i++) {
            x.person(10 * i);
            x.often(i, i + 1);
            x.rule(i, 11 + i, 0, 1);
            x.bundle(3 << i, i + 1);
        }
        x.rule(6, 0, 1, -1);
        for (int i = 0; i < 16; i++) {
            x.pray(i % 6, i % 8, i + 1, 1);
        }
        x.answer(9, 1, 0);
        for (int i = 0; i < 20; i++) {
            // "rank length - waits"
            x.feed(0x72616e6b, 0x206c656e, 0x67746820, 0x2d207761, 0x69747320);
            sum += x.law();
            x.force(0);
            // "dawn times 3"
            x.feed(0x6461776e, 0x2074696d, 0x65732033, 0x20202020, 0x20202020);
            sum += x.orders();
            sum += x.undo() + x.undo() + x.undo();
            sum += x.hidden(-1) + x.keep(3, 20, 1, 7, 1) + x.when(15, 50, 0) + x.longest(2, 7, 3) + x.season(i, 60);
            sum += x.say(0, 5) + x.code(3, 0) + x.cover(63, 1) + x.order(9) + x.rank(3, 0) + x.breath(1, 1);
            sum += x.image(i % 2) + x.back(i % 2) + x.count(i) + x.status();
        }
        return sum;
    }
}
