/** What is counted over all heaps of a box (promises 20 to 24), for every box and every argument near. */
public final class BoxesTest {
    private static final CornerHeaps X = new CornerHeaps();
    private static final Model M = new Model();

    public static void main(String[] args) {
        for (int a = -1; a <= 5; a++) {
            for (int b = -1; b <= 5; b++) {
                for (int c = -1; c <= 5; c++) {
                    counts(a, b, c);
                    weights(a, b, c);
                }
            }
        }
        int[] far = {Integer.MIN_VALUE, -1000, 1 << 30, Integer.MAX_VALUE};
        for (int n : far) {
            counts(n, 2, 2);
            counts(2, n, 2);
            counts(2, 2, n);
            counts(n, n, n);
            argumentsFarOff(n);
        }
        Checks.finish();
    }

    private static void counts(int a, int b, int c) {
        String box = a + ", " + b + ", " + c;
        Checks.due("many(" + box + ")", X.many(a, b, c), M.many(a, b, c));
        for (int k = -1; k <= 5; k++) {
            Checks.due("minor(" + box + ", " + k + ")", X.minor(a, b, c, k), M.minor(a, b, c, k));
        }
        for (int v = -1; v <= 50; v++) {
            Checks.due("series(" + box + ", " + v + ")", X.series(a, b, c, v), M.series(a, b, c, v));
        }
        for (int set = -1; set <= 16; set++) {
            Checks.due("symmetric(" + box + ", " + set + ")", X.symmetric(a, b, c, set),
                    M.symmetric(a, b, c, set));
        }
    }

    private static void weights(int a, int b, int c) {
        for (int kind = -1; kind <= 5; kind++) {
            for (int q = 0; q <= 10; q++) {
                Checks.due("weighed(" + a + ", " + b + ", " + c + ", " + kind + ", " + q + ")",
                        X.weighed(a, b, c, kind, q), M.weighed(a, b, c, kind, q));
            }
        }
    }

    private static void argumentsFarOff(int n) {
        Checks.due("minor(2, 2, 2, " + n + ")", X.minor(2, 2, 2, n), M.minor(2, 2, 2, n));
        Checks.due("series(2, 2, 2, " + n + ")", X.series(2, 2, 2, n), M.series(2, 2, 2, n));
        Checks.due("symmetric(2, 2, 2, " + n + ")", X.symmetric(2, 2, 2, n), M.symmetric(2, 2, 2, n));
        Checks.due("weighed(2, 2, 2, " + n + ", 2)", X.weighed(2, 2, 2, n, 2), M.weighed(2, 2, 2, n, 2));
        Checks.due("weighed(2, 2, 2, 1, " + n + ")", X.weighed(2, 2, 2, 1, n), M.weighed(2, 2, 2, 1, n));
    }
}
