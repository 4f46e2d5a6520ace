/** Every pair of heaps of some small boxes: between, way with every m, and join (promises 11, 25, 26). */
public final class WaysTest {
    public static void main(String[] args) {
        pairs(1, 1, 1, 1);
        pairs(1, 1, 4, 1);
        pairs(1, 4, 1, 1);
        pairs(1, 3, 2, 1);
        pairs(3, 1, 2, 1);
        pairs(2, 2, 2, 1);
        pairs(2, 2, 3, 7);
        pairs(2, 3, 3, 29);
        pairs(2, 2, 4, 17);
        limits();
        Checks.finish();
    }

    private static void pairs(int a, int b, int c, int step) {
        int heaps = Model.list(a, b, c).size();
        for (int from = 0; from < heaps; from += step) {
            for (int to = 0; to < heaps; to += step) {
                CornerHeaps x = new CornerHeaps();
                Model m = new Model();
                x.take(a, b, c, from, 0);
                m.take(a, b, c, from, 0);
                x.take(a, b, c, to, 1);
                m.take(a, b, c, to, 1);
                onePair("heaps " + from + " and " + to + " of " + a + " " + b + " " + c + ": ", x, m);
            }
        }
    }

    private static void onePair(String pair, CornerHeaps x, Model m) {
        Checks.due(pair + "between", x.between(0, 1), m.between(0, 1));
        for (int k = -1; k <= 10; k++) {
            Checks.due(pair + "way " + k, x.way(0, 1, k), m.way(0, 1, k));
        }
        for (int how = -1; how <= 2; how++) {
            Checks.due(pair + "join " + how, x.join(0, 1, how, 2), m.join(0, 1, how, 2));
            Checks.due(pair + "joined " + how, x.whole(2, 4), m.whole(2, 4));
        }
    }

    /** Each box counts as too large for a way just if it has more than 200 heaps. */
    private static void limits() {
        for (int a = 1; a <= 4; a++) {
            for (int b = 1; b <= 4; b++) {
                for (int c = 1; c <= 4; c++) {
                    if (Model.isBox(a, b, c)) {
                        CornerHeaps x = new CornerHeaps();
                        x.take(a, b, c, 0, 0);
                        x.turn(0, 2, 1);
                        int due = Model.list(a, b, c).size() > 200 ? CornerHeaps.FULL : a * b * c;
                        Checks.due("way through " + a + " " + b + " " + c, x.way(0, 1, 0), due);
                    }
                }
            }
        }
    }
}
