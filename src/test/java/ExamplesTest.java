/** The four examples of the document, call by call. */
public final class ExamplesTest {
    public static void main(String[] args) {
        example1(new CornerHeaps());
        example2(new CornerHeaps());
        example3(new CornerHeaps());
        example4(new CornerHeaps());
        Checks.finish();
    }

    /** A text with a height that is too great. */
    private static void example1(CornerHeaps x) {
        Checks.due("feed(120)", x.feed(120), 1L);
        Checks.due("feed(50)", x.feed(50), 2L);
        Checks.due("feed(50)", x.feed(50), 3L);
        Checks.due("feed(49)", x.feed(49), 4L);
        Checks.due("feed(114)", x.feed(114), 5L);
        Checks.due("feed(50)", x.feed(50), 6L);
        Checks.due("feed(49)", x.feed(49), 7L);
        Checks.due("feed(49)", x.feed(49), 8L);
        Checks.due("feed(48)", x.feed(48), 9L);
        Checks.due("feed(59)", x.feed(59), 10L);
        Checks.due("heap(0)", x.heap(0), -1000105L);
        Checks.due("whole(0, 8)", x.whole(0, 8), -1000001L);
        Checks.due("whole(0, 9)", x.whole(0, 9), -1000001L);
    }

    /** A heap by its number, and what belongs to it. */
    private static void example2(CornerHeaps x) {
        Checks.due("take(2, 2, 2, 7, 1)", x.take(2, 2, 2, 7, 1), 3L);
        Checks.due("whole(1, 3)", x.whole(1, 3), 3L);
        Checks.due("lay(1, 0, 0)", x.lay(1, 0, 0), -1000002L);
        Checks.due("off(1, 1, 1)", x.off(1, 1, 1), -1000002L);
        Checks.due("path(1, 0, 1)", x.path(1, 0, 1), 110L);
        Checks.due("slice(1, 0, 1)", x.slice(1, 0, 1), 0L);
        Checks.due("face(1, 0, 2)", x.face(1, 0, 2), 0L);
        Checks.due("turn(1, 2, 2)", x.turn(1, 2, 2), 5L);
        Checks.due("join(1, 2, 0, 3)", x.join(1, 2, 0, 3), 5L);
        Checks.due("way(1, 2, 0)", x.way(1, 2, 0), 2L);
        Checks.due("way(1, 2, 2)", x.way(1, 2, 2), -1000000L);
        Checks.due("between(1, 3)", x.between(1, 3), 4L);
        Checks.due("orders(1)", x.orders(1), 2L);
        Checks.due("kin(1, 1)", x.kin(1, 1), 7L);
        Checks.due("undo()", x.undo(), 2L);
        Checks.due("count(1)", x.count(1), 8L);
    }

    /** A word with one e too many, and counts of boxes. */
    private static void example3(CornerHeaps x) {
        Checks.due("feed(120)", x.feed(120), 1L);
        Checks.due("feed(49)", x.feed(49), 2L);
        Checks.due("feed(49)", x.feed(49), 3L);
        Checks.due("feed(50)", x.feed(50), 4L);
        Checks.due("feed(112)", x.feed(112), 5L);
        Checks.due("feed(110)", x.feed(110), 6L);
        Checks.due("feed(101)", x.feed(101), 7L);
        Checks.due("feed(101)", x.feed(101), 8L);
        Checks.due("heap(3)", x.heap(3), -1000107L);
        Checks.due("fault()", x.fault(), 2L);
        Checks.due("many(2, 2, 2)", x.many(2, 2, 2), 20L);
        Checks.due("minor(2, 2, 2, 2)", x.minor(2, 2, 2, 2), 20L);
        Checks.due("series(2, 2, 2, 4)", x.series(2, 2, 2, 4), 4L);
        Checks.due("weighed(2, 2, 2, 1, 2)", x.weighed(2, 2, 2, 1, 2), 775L);
        Checks.due("symmetric(2, 2, 2, 1)", x.symmetric(2, 2, 2, 1), 10L);
        Checks.due("many(4, 4, 4)", x.many(4, 4, 4), -1000001L);
    }

    /** A text that ends too early, a heap by a seed, and undo. */
    private static void example4(CornerHeaps x) {
        Checks.due("feed(120)", x.feed(120), 1L);
        Checks.due("feed(49)", x.feed(49), 2L);
        Checks.due("feed(49)", x.feed(49), 3L);
        Checks.due("heap(4)", x.heap(4), -1000001L);
        Checks.due("count(3)", x.count(3), 3L);
        Checks.due("heap(0)", x.heap(0), -1000103L);
        Checks.due("fault()", x.fault(), 1L);
        Checks.due("drawn(1, 1, 3, 5, 0)", x.drawn(1, 1, 3, 5, 0), 3L);
        Checks.due("height(0, 0, 0)", x.height(0, 0, 0), 3L);
        Checks.due("drop(0)", x.drop(0), 3L);
        Checks.due("drop(0)", x.drop(0), -1000001L);
        Checks.due("image(0)", x.image(0), 0L);
        Checks.due("restore(1)", x.restore(1), -1000002L);
        Checks.due("undo()", x.undo(), 1L);
        Checks.due("undo()", x.undo(), 0L);
        Checks.due("undo()", x.undo(), -1000002L);
    }
}
