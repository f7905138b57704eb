import java.lang.management.ManagementFactory;

/** All calls of a run live in one room of some 7.3 million fields and elements, mostly of four bytes. */
public final class RoomTest {
    private static final long BYTES_MOST = 4 * 7_300_000L;
    private static long sum = 0;

    public static void main(String[] args) {
        com.sun.management.ThreadMXBean bean = (com.sun.management.ThreadMXBean) ManagementFactory.getThreadMXBean();
        long id = Thread.currentThread().getId();
        if (!bean.isThreadAllocatedMemorySupported()) {
            System.out.println("nothing tells here what is made");
            return;
        }
        for (int i = 0; i < 3; i++) {
            calls(new TugLake());
        }
        long start = bean.getThreadAllocatedBytes(id);
        TugLake x = new TugLake();
        long made = bean.getThreadAllocatedBytes(id);
        int many = calls(x);
        long used = bean.getThreadAllocatedBytes(id);
        System.out.println("an object: " + (made - start) + " bytes, " + many + " calls: " + (used - made) + " bytes (" + sum + ")");
        if (used - start > BYTES_MOST) {
            System.out.println("too much is made");
            System.exit(1);
        }
    }

    private static void lake(TugLake x) {
        // pw2s1f20;ps2l1f30;ps3;ps0l2;bk4t10
        x.feed(0x70773273, 0x31663230, 0x3b707332, 0x6c316633, 0x303b7073);
        x.feed(0x333b7073, 0x306c323b, 0x626b3474, 0x31300000, 0);
        sum += x.text(0);
        // y:!(p=9)?[f+1]*2
        x.feed(0x793a2128, 0x703d3929, 0x3f5b662b, 0x315d2a32, 0);
        sum += x.text(1);
        x.worth(0);
    }

    private static int calls(TugLake x) {
        lake(x);
        int many = 5;
        for (int i = 0; i < 12; i++) {
            sum += x.bestKnots(3, i % 3) + x.settled(i) + x.worst(0) + x.tongue(4, 0) + x.skill(2, 0) + x.sense(true, false, 0);
            sum += x.code(16, 3, i) + x.read(16, 3, i) + x.spread(16, 2) + x.meant(i) + x.mixed(i) + x.knots(3, 1234, 0);
            sum += x.pair(0) + x.leavers(9999, i) + x.rests(0, 0, i) + x.crossed(0, 0, 0) + x.weather(20, 30, 0) + x.lone(2, 0);
            sum += x.day() + x.run() + x.copy() + x.image() + x.back() + x.undo() + x.mean(0) + x.cases(0) + x.said(1, 1);
            x.answer();
            x.shelve(true, i % 4);
            x.shelve(false, i % 4);
            x.worth(i % 2 - 1);
            x.set(2, true);
            x.set(3, true);
            x.tugs(1230);
            sum += x.fault(0) + x.fault(1) + x.count(5) + x.hoard(1, 0) + x.see(1, 1);
            many += 39;
        }
        return many;
    }
}
