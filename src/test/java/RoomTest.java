import java.lang.management.ManagementFactory;

/** An object takes a bounded room when it is made; its calls take none. */
public final class RoomTest {
    private RoomTest() {
    }

    public static void main(String[] args) {
        var threads = (com.sun.management.ThreadMXBean) ManagementFactory.getThreadMXBean();
        long thread = Thread.currentThread().getId();
        MixCover warm = new MixCover();
        calls(warm);
        long start = threads.getThreadAllocatedBytes(thread);
        MixCover cover = new MixCover();
        long made = threads.getThreadAllocatedBytes(thread);
        for (int i = 0; i < 10; i++) {
            calls(cover);
        }
        long called = threads.getThreadAllocatedBytes(thread);
        Check.due("an object is below 80000 bytes", made - start < 80_000 ? 1 : 0, 1);
        Check.due("calls take next to nothing: " + (called - made), called - made < 20_000 ? 1 : 0, 1);
        Check.endOf("RoomTest");
    }

    private static void calls(MixCover cover) {
        cover.end(0);
        // "levels 3 3 3 3;never 0.0&1.0&3.2;strength 3"
        cover.feed(0x6c657665, 0x6c732033, 0x20332033, 0x20333b6e, 0x65766572);
        cover.feed(0x20302e30, 0x26312e30, 0x26332e32, 0x3b737472, 0x656e6774);
        cover.feed(0x68203320, 0x20202020, 0x20202020, 0x20202020, 0x20202020);
        if (cover.plan() < 0) {
            Check.fails("no plan");
        }
        cover.fill();
        cover.drawn();
        cover.widen(2);
        cover.settle();
        cover.greed();
        cover.order();
        cover.result(0, 2);
        cover.ask(1);
        cover.guilty(2, 0);
        cover.thin();
        cover.keep(0);
        cover.undo();
        cover.field();
        cover.back(0);
        cover.hope(99999);
        cover.lawful(99999);
    }
}
