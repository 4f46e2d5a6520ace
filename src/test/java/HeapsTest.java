/**
 * What is said of a single heap (promises 3, 6 and 13 to 19), for every heap of the smaller boxes and
 * for some of each larger one.
 */
public final class HeapsTest {
    private static final int MOST_OF_A_BOX = 60;

    public static void main(String[] args) {
        for (int a = 1; a <= 4; a++) {
            for (int b = 1; b <= 4; b++) {
                for (int c = 1; c <= 4; c++) {
                    if (Model.isBox(a, b, c)) {
                        someOfBox(a, b, c);
                    }
                }
            }
        }
        everyNumber(4, 3, 4);
        everyNumber(3, 3, 3);
        Checks.finish();
    }

    private static void someOfBox(int a, int b, int c) {
        int heaps = Model.list(a, b, c).size();
        int step = 1 + heaps / MOST_OF_A_BOX;
        for (int number = 0; number < heaps; number += step) {
            oneHeap(a, b, c, number);
        }
        oneHeap(a, b, c, heaps - 1);
    }

    private static void oneHeap(int a, int b, int c, int number) {
        CornerHeaps x = new CornerHeaps();
        Model m = new Model();
        String heap = "heap " + number + " of " + a + " " + b + " " + c + ": ";
        Checks.due(heap + "take", x.take(a, b, c, number, 2), m.take(a, b, c, number, 2));
        whole(heap, x, m);
        parts(heap, x, m);
        faces(heap, x, m);
        texts(heap, new Model.Pile(a, b, c, Model.list(a, b, c).get(number)), number);
    }

    private static void whole(String heap, CornerHeaps x, Model m) {
        for (int what = -1; what <= 10; what++) {
            Checks.due(heap + "whole " + what, x.whole(2, what), m.whole(2, what));
        }
        for (int k = -1; k <= 12; k++) {
            Checks.due(heap + "kin " + k, x.kin(2, k), m.kin(2, k));
        }
        Checks.due(heap + "orders", x.orders(2), m.orders(2));
    }

    private static void parts(String heap, CornerHeaps x, Model m) {
        for (int i = -1; i <= 4; i++) {
            for (int j = -1; j <= 4; j++) {
                Checks.due(heap + "height " + i + " " + j, x.height(2, i, j), m.height(2, i, j));
            }
            for (int k = -1; k <= 9; k++) {
                Checks.due(heap + "path " + i + " " + k, x.path(2, i, k), m.path(2, i, k));
            }
        }
        for (int d = -5; d <= 5; d++) {
            for (int k = -1; k <= 5; k++) {
                Checks.due(heap + "slice " + d + " " + k, x.slice(2, d, k), m.slice(2, d, k));
            }
        }
    }

    private static void faces(String heap, CornerHeaps x, Model m) {
        for (int u = -9; u <= 9; u++) {
            for (int v = -20; v <= 20; v++) {
                Checks.due(heap + "face " + u + " " + v, x.face(2, u, v), m.face(2, u, v));
            }
        }
    }

    private static void texts(String heap, Model.Pile pile, int number) {
        String[] texts = {Model.rowText(pile), Model.diagonalText(pile), Model.pathText(pile)};
        for (String text : texts) {
            CornerHeaps x = new CornerHeaps();
            for (int n = 0; n < text.length(); n++) {
                Checks.due(heap + "feed", x.feed(text.charAt(n)), n + 1);
            }
            x.heap(1);
            Checks.due(heap + "text " + text, x.whole(1, 4), number);
            Checks.due(heap + "A of " + text, x.whole(1, 0), pile.a());
            Checks.due(heap + "B of " + text, x.whole(1, 1), pile.b());
            Checks.due(heap + "C of " + text, x.whole(1, 2), pile.c());
        }
    }

    private static void everyNumber(int a, int b, int c) {
        CornerHeaps x = new CornerHeaps();
        int heaps = Model.list(a, b, c).size();
        for (int number = 0; number < heaps; number++) {
            if (number % 100 == 0) {
                x = new CornerHeaps();
            }
            x.take(a, b, c, number, 0);
            int[][] h = Model.list(a, b, c).get(number);
            for (int i = 0; i < a; i++) {
                Checks.due("height of heap " + number, x.height(0, i, b - 1), h[i][b - 1]);
            }
            Checks.due("number of heap " + number, x.whole(0, 4), number);
        }
    }
}
