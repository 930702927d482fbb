import com.sun.management.ThreadMXBean;
import java.lang.management.ManagementFactory;

/** No call makes an object or an array, and a new PaperAger stays small: all calls share one room. */
public final class RoomTest {
    private static final int CALLS = 20000;

    public static void main(String[] args) {
        ThreadMXBean threads = (ThreadMXBean) ManagementFactory.getThreadMXBean();
        long id = Thread.currentThread().getId();
        PaperAger x = new PaperAger();
        int kept = 0;
        for (int i = 0; i < CALLS; i++) kept += round(x, i);
        long before = threads.getThreadAllocatedBytes(id);
        for (int i = 0; i < CALLS; i++) kept += round(x, i);
        long calls = threads.getThreadAllocatedBytes(id) - before;
        before = threads.getThreadAllocatedBytes(id);
        PaperAger[] many = new PaperAger[100];
        for (int i = 0; i < many.length; i++) many[i] = new PaperAger();
        long made = (threads.getThreadAllocatedBytes(id) - before) / many.length;
        System.out.println(CALLS + " rounds of all calls take " + calls + " bytes, a new object " + made + " (" + kept + ")");
        if (calls > CALLS || made > 40000) System.exit(1);
    }

    private static int round(PaperAger x, int i) {
        int sum = x.state(i) + x.reader(-i, -1, i & 1, i & 3) + x.paper(i % 5) + x.read(i % 12, i % 11) + x.next();
        sum += bit(x.set(i % 12, 0, -1)) + bit(x.move(i % 12, i % 5)) + bit(x.swap(i % 5, 2)) + bit(x.lease(i % 12, i % 12));
        if (i % 100 == 0) sum += x.days(1) + x.fire(i % 5);
        x.feed(0x61676520, 0x6E6F7720, 0x7768656E, 0x20647573, 0x743E3120);
        x.feed(0x616E6420, 0x6E6F7428, 0x6B696E64, 0x3D39293B, 0x61676531);
        sum += bit(x.end(i % 3 == 0 ? 36 : 40)) + x.text() + x.fault(0) + x.age(i % 12, 9000) + x.of(i % 12, i % 7);
        sum += x.who(i % 12, i % 8) + x.book(i % 120, i % 5) + x.claim(i % 12, 9000, 0, i % 999) + x.look(i % 9);
        if (i % 100 == 0) sum += x.fewest(0) + x.thumbs(i % 12, 20, 0) + x.of(i % 12, 7);
        return sum + x.leaps(i % 4, 1, 0) + x.close() + x.mean(i % 5) + bit(x.undo()) + bit(x.image(i % 7 > 0));
    }

    private static int bit(boolean b) {
        return b ? 1 : 0;
    }
}
