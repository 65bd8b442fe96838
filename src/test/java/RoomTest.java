import com.sun.management.ThreadMXBean;
import java.lang.management.ManagementFactory;

/** Calls make no objects: all that they use is made with the object, and that is little. */
public final class RoomTest {
    private static final ThreadMXBean THREADS = (ThreadMXBean) ManagementFactory.getThreadMXBean();
    private static final int CALLS = 500, MOST_BYTES_OF_CALLS = 20_000, MOST_BYTES_OF_OBJECT = 24_000;

    public static void main(String[] args) {
        KissClearing warm = Due.village("ppi x01h1 x12h2 x20h3");
        Due.fill(warm, 0, 3, 2, 1);
        allCalls(warm);
        long made = bytes();
        KissClearing x = new KissClearing();
        made = bytes() - made;
        Due.write(x, 0, "pasbgix01h9x12h9x20h9x23h9x30h9x15h9x53h9x10c9x21c9x02c9x54t9x45t9");
        x.village(0);
        Due.fill(x, 0, 9, 9, 9, 9, 9, 9);
        long before = bytes();
        for (int i = 0; i < CALLS; i++) {
            allCalls(x);
        }
        long used = bytes() - before;
        System.out.println("an object has " + made + " bytes; " + CALLS + " rounds of calls made " + used);
        if (used > MOST_BYTES_OF_CALLS || made > MOST_BYTES_OF_OBJECT) {
            System.out.println("that is more than is due");
            System.exit(1);
        }
    }

    private static long bytes() {
        return THREADS.getThreadAllocatedBytes(Thread.currentThread().getId());
    }

    private static void allCalls(KissClearing x) {
        x.row(1, 40);
        x.copy(1, 0, 1, 1, 3);
        x.mean(1);
        x.text(1, 80);
        x.put(1, 2, 3);
        x.fault(0);
        x.fault(1);
        x.person(0, 4);
        x.draft(0, 5);
        x.mark(5, 5);
        x.keep(0);
        x.owe(10, 3);
        x.endorse(0, 2);
        x.ring(0, 2);
        x.clear(2);
        x.week();
        x.keep(1);
        x.lots(20, 77);
        x.undo(3);
        x.on(1);
        x.on(0);
        x.between(0, 1, 0);
        x.all(0);
        x.net(0);
        x.left(0);
        x.falls(1);
        x.worst();
        x.saved(1, 2);
        x.pairs();
        x.rounds();
        x.mistletoe();
        x.gain(0);
        x.trust(0, 1);
        x.blushes(0);
        x.sure(0);
        x.odds();
        x.count(3);
        x.digest();
        x.meet(0, 1);
        x.undo(0);
    }
}
