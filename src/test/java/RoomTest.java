import java.lang.management.ManagementFactory;

/** No call makes an object: what a run takes is what its constructors take (LANGUAGE.md 12). */
public final class RoomTest {
    private static long sink = 0;

    public static void main(String[] args) {
        com.sun.management.ThreadMXBean memory =
                (com.sun.management.ThreadMXBean) ManagementFactory.getThreadMXBean();
        long thread = Thread.currentThread().getId();
        allCalls(new SunRings());
        memory.getThreadAllocatedBytes(thread);
        long before = memory.getThreadAllocatedBytes(thread);
        SunRings x = new SunRings();
        long made = memory.getThreadAllocatedBytes(thread);
        for (int n = 0; n < 10; n++) {
            allCalls(x);
        }
        long after = memory.getThreadAllocatedBytes(thread);
        boolean small = made - before < 40000 && after - made < 2000;
        System.out.println("RoomTest: " + (small ? "small" : "too much") + ", " + (made - before)
                + " bytes for an object, " + (after - made) + " for its calls");
        if (!small) System.exit(1);
    }

    private static void allCalls(SunRings x) {
        sink += x.table(1, 9, 497) + x.rule(0, 5) + x.inside(0, 1, 450) + x.outside(0, 1, 300);
        sink += x.ray(2, 1, 450, 3) + x.map(1, 1, 140) + x.bow(1, 1, 0, 1) + x.dark(1, 2);
        sink += x.wedge(0, 600) + x.wedge(1, 900) + x.wedge(2, 250) + x.turned(600, 1, 450) + x.ring(600, 1);
        sink += x.light(3, 100, 0, 3) + x.mark(2, 1, 240, 10) + x.mark(-1, -1, 1800, 0);
        sink += x.explains(65535, 100) + x.fewest(100) + x.owed(65535, 100) + x.never() + x.heights(65535, -1);
        sink += x.cut(2, 1) + x.made(65535, 100) + x.maker(100) + x.day(-5, 1, 7) + x.odds(1, -60, 40, -1, 1);
        sink += x.together(0, 1) + x.keep() + x.noWedges(1) + x.back() + x.count(5) + x.wipe();
    }
}
