/** What the document says of error codes: their order, NONE, and that a refused call changes nothing. */
public final class ErrorsTest {
    private static final int NONE = Bench.NONE;
    private static final int BAD = Bench.BAD;
    private static final int STATE = Bench.STATE;
    private static final int FULL = Bench.FULL;
    private static final int MAX = Bench.MAX;

    public static void main(String[] args) {
        constants();
        orderOfCodes();
        noneIsNoError();
        nothingChanges();
        heapIsTheException();
        questionsChangeNothing();
        Checks.finish();
    }

    private static void constants() {
        Checks.says("public static final int NONE = -1000000, BAD = -1000001, STATE = -1000002, FULL = -1000003;");
        Checks.due("NONE", CornerHeaps.NONE, NONE);
        Checks.due("BAD", CornerHeaps.BAD, BAD);
        Checks.due("STATE", CornerHeaps.STATE, STATE);
        Checks.due("FULL", CornerHeaps.FULL, FULL);
    }

    /** Each call has two errors or more. */
    private static void orderOfCodes() {
        Checks.says("Each method lists its error codes in the order in which they are checked,"
                + " and returns the first one that applies.");
        CornerHeaps full = new CornerHeaps();
        Bench.write(full, "0".repeat(60));
        Checks.due("feed: BAD before FULL", full.feed(256), BAD);
        Checks.due("feed: BAD before FULL", full.feed(-1), BAD);
        CornerHeaps x = Bench.with("x344r444444444444;", "x434r444444444444;", "x111r1;");
        Checks.due("join: BAD of how before STATE", x.join(0, 1, 2, 3), BAD);
        Checks.due("join: BAD of to before STATE", x.join(0, 1, 0, 4), BAD);
        Checks.due("join: BAD of y before STATE", x.join(0, 3, 0, 3), BAD);
        Checks.due("symmetric: BAD of the set before FULL", x.symmetric(3, 4, 4, 16), BAD);
        Checks.due("symmetric: BAD of the box before FULL", x.symmetric(4, 4, 4, 15), BAD);
        Checks.due("between: BAD before STATE", x.between(3, 0), BAD);
        Checks.due("way: BAD of m before STATE", x.way(0, 1, 10), BAD);
        Checks.due("way: BAD of m before FULL", x.way(0, 0, 10), BAD);
        Checks.due("way: BAD of y before FULL", x.way(0, 3, 0), BAD);
        Checks.due("way: STATE before FULL", x.way(0, 1, 0), STATE);
        Checks.due("way: STATE before FULL", x.way(0, 2, 0), STATE);
        Checks.due("way: FULL", x.way(0, 0, 0), FULL);
        Checks.due("orders: FULL", x.orders(0), FULL);
        Checks.due("lay: STATE", x.lay(0, 2, 3), STATE);
        Checks.due("lay: BAD of the row, where none can be added", x.lay(0, 3, 3), BAD);
        Checks.due("off: BAD of the column, where one can be removed", x.off(0, 2, 4), BAD);
        Checks.due("restore: BAD, where none has been kept", x.restore(2), BAD);
    }

    private static void noneIsNoError() {
        Checks.says("NONE is not an error; it is returned only if no error applies.");
        CornerHeaps x = Bench.with("x222r2010;", "x222r2100;", "x234r443210;", "x234r000000;");
        Checks.due("path behind the word", x.path(0, 1, 4), NONE);
        Checks.due("path behind the word of no row", x.path(0, 2, 4), BAD);
        Checks.due("path behind the word of row -1", x.path(0, -1, MAX), BAD);
        Checks.due("slice behind the diagonal", x.slice(0, 1, 1), NONE);
        Checks.due("slice behind no diagonal", x.slice(0, 2, 1), BAD);
        Checks.due("slice behind no diagonal", x.slice(0, -2, MAX), BAD);
        Checks.due("kin behind the last one", x.kin(0, 6), NONE);
        Checks.due("no way", x.way(0, 1, 1), NONE);
        Checks.due("no way, and too many heaps", x.way(2, 3, 1), FULL);
        Checks.due("no way, and other boxes", x.way(0, 3, 1), STATE);
        x.drop(1);
        Checks.due("no way, and no heap", x.way(0, 1, 1), BAD);
        Checks.due("kin of no heap", x.kin(1, MAX), BAD);
        Checks.due("path of no heap", x.path(1, 0, MAX), BAD);
        Checks.due("slice of no heap", x.slice(1, 0, MAX), BAD);
    }

    private static void nothingChanges() {
        Checks.says("A call that returns an error changes nothing, except as told at heap().");
        Bench.refused("feed", BAD, x -> x.feed(256));
        Bench.refused("heap", BAD, x -> x.heap(4));
        Bench.refused("take", BAD, x -> x.take(2, 2, 2, 20, 0));
        Bench.refused("drawn", BAD, x -> x.drawn(2, 2, 2, 0, 0));
        Bench.refused("lay", BAD, x -> x.lay(0, 2, 0));
        Bench.refused("lay", STATE, x -> x.lay(0, 0, 0));
        Bench.refused("off", BAD, x -> x.off(0, 0, 2));
        Bench.refused("off", STATE, x -> x.off(0, 1, 1));
        Bench.refused("turn", BAD, x -> x.turn(0, 3, 0));
        Bench.refused("join", BAD, x -> x.join(0, 1, 2, 0));
        Bench.refused("join", STATE, x -> x.join(0, 2, 0, 0));
        Bench.refused("drop", BAD, x -> x.drop(3));
        Bench.refused("height", BAD, x -> x.height(0, 2, 0));
        Bench.refused("whole", BAD, x -> x.whole(0, 10));
        Bench.refused("path", BAD, x -> x.path(0, 2, 0));
        Bench.refused("slice", BAD, x -> x.slice(0, 2, 0));
        Bench.refused("face", BAD, x -> x.face(3, 0, 0));
        Bench.refused("kin", BAD, x -> x.kin(0, -1));
        Bench.refused("orders", BAD, x -> x.orders(3));
        Bench.refused("many", BAD, x -> x.many(4, 4, 4));
        Bench.refused("minor", BAD, x -> x.minor(2, 2, 2, 3));
        Bench.refused("series", BAD, x -> x.series(2, 2, 2, -1));
        Bench.refused("weighed", BAD, x -> x.weighed(2, 2, 2, 5, 1));
        Bench.refused("symmetric", BAD, x -> x.symmetric(2, 2, 2, 16));
        Bench.refused("symmetric", FULL, x -> x.symmetric(3, 4, 4, 1));
        Bench.refused("between", BAD, x -> x.between(0, 3));
        Bench.refused("between", STATE, x -> x.between(0, 2));
        Bench.refused("way", BAD, x -> x.way(0, 1, 10));
        Bench.refused("way", STATE, x -> x.way(0, 2, 0));
        Bench.refused("image", BAD, x -> x.image(2));
        Bench.refused("restore", BAD, x -> x.restore(2));
        Bench.refused("restore", STATE, x -> x.restore(1));
        Bench.refused("count", BAD, x -> x.count(4));
        refusedFor("feed on a full tape", FULL, x -> x.feed('x'), x -> Bench.write(x, "0".repeat(52)));
        refusedFor("orders of many cubes", FULL, x -> x.orders(1), x -> x.take(3, 4, 4, 24695, 1));
        refusedFor("way in a large box", FULL, x -> x.way(1, 1, 0), x -> x.take(3, 4, 4, 24695, 1));
        refusedFor("undo of nothing", STATE, x -> x.undo(), x -> x.restore(0));
    }

    private interface Step {
        void on(CornerHeaps x);
    }

    private static void refusedFor(String call, int code, Bench.Call refused, Step before) {
        CornerHeaps x = Bench.busy();
        CornerHeaps twin = Bench.busy();
        before.on(x);
        before.on(twin);
        Checks.due(call, refused.on(x), code);
        Checks.same("what remains after " + call, Bench.remains(x), Bench.remains(twin));
    }

    private static void heapIsTheException() {
        Checks.says("except as told at heap()");
        CornerHeaps x = Bench.busy();
        x.feed('!');
        Checks.due("heap of a wrong text", x.heap(0), -1000108);
        Checks.due("the tape is empty", x.count(3), 0);
        Checks.due("the fault is told", x.fault(), 1);
        Checks.due("acts stay", x.count(2), 6);
        Checks.same("places stay", Bench.places(x), Bench.places(Bench.busy()));
    }

    /** Only what is an act, undo, restore, image, feed and heap changes something. */
    private static void questionsChangeNothing() {
        Checks.says("Nothing is promised beyond the answers and state changes described above");
        CornerHeaps x = Bench.busy();
        for (int n = 0; n < 10; n++) {
            x.fault();
            x.height(0, 0, 0);
            x.whole(2, n);
            x.path(0, 1, n);
            x.slice(0, 0, n);
            x.face(0, 0, n);
            x.kin(2, n);
            x.orders(0);
            x.many(3, 4, 4);
            x.minor(4, 4, 3, 4);
            x.series(4, 4, 3, n);
            x.weighed(4, 4, 3, n % 5, 9);
            x.symmetric(3, 3, 3, n);
            x.between(0, 1);
            x.between(2, 2);
            x.way(0, 1, n);
            x.count(n % 4);
        }
        Checks.same("what remains after questions", Bench.remains(x), Bench.remains(Bench.busy()));
    }
}
