import java.lang.management.ManagementFactory;
import java.util.function.Consumer;

/** All calls of a run live in one room: 500 calls of any one kind make little that is new. */
public final class RoomTest {
    private static final int CALLS = 500;
    /** The room has some 7.3 million fields and elements; half a million bytes is far below it. */
    private static final long MOST_BYTES = 500_000;

    public static void main(String[] args) {
        measure("feed and heap", x -> {
            x.feed('x');
            x.heap(0);
        });
        measure("take", x -> x.take(3, 4, 4, 20000, 1));
        measure("drawn", x -> x.drawn(3, 4, 4, 777, 1));
        measure("lay and off", x -> {
            x.lay(2, 0, 0);
            x.off(2, 0, 0);
        });
        measure("turn", x -> x.turn(0, 1, 0));
        measure("join", x -> x.join(0, 1, 0, 1));
        measure("whole 4", x -> x.whole(0, 4));
        measure("whole 8", x -> x.whole(0, 8));
        measure("whole 9", x -> x.whole(0, 9));
        measure("face", x -> x.face(0, 100, 100));
        measure("kin", x -> x.kin(0, 11));
        measure("orders", x -> x.orders(2));
        measure("many", x -> x.many(3, 4, 4));
        measure("minor", x -> x.minor(4, 4, 3, 4));
        measure("series", x -> x.series(4, 4, 3, 48));
        measure("weighed", x -> x.weighed(3, 4, 4, 1, 9));
        measure("symmetric", x -> x.symmetric(3, 3, 3, 15));
        measure("between", x -> x.between(0, 1));
        measure("way", x -> x.way(2, 3, 0));
        measure("image and restore", x -> {
            x.image(0);
            x.restore(0);
        });
        Checks.finish();
    }

    private static void measure(String calls, Consumer<CornerHeaps> call) {
        long before = allocated();
        CornerHeaps x = new CornerHeaps();
        x.take(3, 4, 4, 0, 0);
        x.take(3, 4, 4, 24695, 1);
        x.take(2, 3, 3, 0, 2);
        x.take(2, 3, 3, 174, 3);
        for (int n = 0; n < CALLS; n++) {
            call.accept(x);
        }
        long bytes = allocated() - before;
        Checks.holds(CALLS + " times " + calls + " makes " + bytes + " bytes", bytes < MOST_BYTES);
    }

    private static long allocated() {
        var threads = (com.sun.management.ThreadMXBean) ManagementFactory.getThreadMXBean();
        return threads.getThreadAllocatedBytes(Thread.currentThread().getId());
    }
}
