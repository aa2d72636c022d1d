import com.sun.management.ThreadMXBean;
import java.lang.management.ManagementFactory;

/** The dearest calls, each made 512 times on full bags, stay far below the room that one run has. */
public final class RoomTest {
    private static final int CALLS = 512;
    /** A tenth of 7.3 million elements, thought of as four bytes each. */
    private static final long MOST_BYTES = 7300000L * 4 / 10;

    private interface Call {
        void make(Bags x);
    }

    private static int wrong = 0;

    private static Bags full() {
        Bags x = new Bags();
        for (int bag = 0; bag < 4; bag++) {
            x.fill(bag, -999 + bag, -999 + bag + 39 * 4, 4, 1000000);
            x.lens(bag, 1, 0, 999);
        }
        x.window(30);
        for (int i = 0; i < 30; i++) {
            x.flow(-999 + i);
        }
        return x;
    }

    private static void check(String name, Call call) {
        Bags x = full();
        call.make(x);
        ThreadMXBean threads = (ThreadMXBean) ManagementFactory.getThreadMXBean();
        long thread = Thread.currentThread().getId();
        long before = threads.getThreadAllocatedBytes(thread);
        for (int i = 0; i < CALLS; i++) {
            call.make(x);
        }
        long bytes = threads.getThreadAllocatedBytes(thread) - before;
        if (bytes > MOST_BYTES) {
            wrong++;
            System.out.println("RoomTest: " + CALLS + " calls of " + name + " take " + bytes + " bytes");
        }
    }

    public static void main(String[] arguments) {
        check("text", x -> x.text(0, true));
        check("shares", x -> x.shares(0, 20));
        check("halves", x -> x.halves());
        check("digest", x -> x.digest());
        check("isSound", x -> x.isSound());
        check("combine", x -> x.combine(0, 0, 1, 2));
        check("mend", x -> x.mend(0, 1, 1));
        check("distance", x -> x.distance(0, 1));
        check("wouldFlow", x -> x.wouldFlow(5));
        check("lensClear", x -> x.lensClear(0));
        System.out.println("RoomTest: " + wrong + " calls are too dear");
        if (wrong > 0) {
            System.exit(1);
        }
    }
}
