import java.util.Random;

/** Long runs of mixed calls, each answered by CornerHeaps and by the model. */
public final class RunsTest {
    private static final int RUNS = 400;
    private static final int CALLS = 500;

    private final Random random;
    private final int run;
    private final boolean small;
    private final CornerHeaps x = new CornerHeaps();
    private final Model m = new Model();

    private RunsTest(int run) {
        this.run = run;
        this.random = new Random(run);
        this.small = run % 8 != 0;
    }

    public static void main(String[] args) {
        for (int run = 1; run <= RUNS && !Checks.anyWrong(); run++) {
            new RunsTest(run).go();
        }
        Checks.finish();
    }

    private void go() {
        int calls = 0;
        while (calls < CALLS && !Checks.anyWrong()) {
            calls += step();
        }
    }

    private int step() {
        int choice = random.nextInt(30);
        if (choice < 3) {
            return text();
        }
        if (choice < 12) {
            return act();
        }
        if (choice < 15) {
            return keeping();
        }
        return choice < 25 ? question() : pair();
    }

    private void due(String call, long got, long want) {
        Checks.due("run " + run + ": " + call, got, want);
    }

    private int side() {
        return random.nextInt(20) == 0 ? random.nextInt(7) - 1 : 1 + random.nextInt(small ? 3 : 4);
    }

    /** Nearly always as in most of the run, so that heaps of equal boxes meet. */
    private int[] box() {
        if (random.nextInt(3) > 0) {
            int[][] often = {{2, 2, 2}, {2, 2, 3}, {1, 3, 2}, {2, 3, 2}, {3, 3, 2}};
            return often[run % often.length];
        }
        return new int[] {side(), side(), side()};
    }

    private int place() {
        return random.nextInt(25) == 0 ? random.nextInt(2) * 5 - 1 : random.nextInt(4);
    }

    private int index() {
        return random.nextInt(15) == 0 ? random.nextInt(12) - 3 : random.nextInt(small ? 3 : 4);
    }

    private int text() {
        String text = mutated(rightText());
        int calls = 2;
        for (int n = 0; n < text.length(); n++, calls++) {
            int letter = text.charAt(n);
            due("feed " + letter, x.feed(letter), m.feed(letter));
        }
        int to = place();
        due("heap " + to + " of " + text, x.heap(to), m.heap(to));
        due("fault of " + text, x.fault(), m.fault());
        return calls;
    }

    private String rightText() {
        int[] box = box();
        if (!Model.isBox(box[0], box[1], box[2])) {
            return "x" + Math.abs(box[0]) + Math.abs(box[1]) + Math.abs(box[2]) + "r0000;";
        }
        int many = Model.list(box[0], box[1], box[2]).size();
        int[][] h = Model.list(box[0], box[1], box[2]).get(random.nextInt(many));
        Model.Pile pile = new Model.Pile(box[0], box[1], box[2], h);
        int form = random.nextInt(3);
        return form == 0 ? Model.rowText(pile) : form == 1 ? Model.diagonalText(pile) : Model.pathText(pile);
    }

    private String mutated(String text) {
        int at = random.nextInt(text.length());
        String signs = "x0123459rdpen,; ~";
        char sign = signs.charAt(random.nextInt(signs.length()));
        switch (random.nextInt(6)) {
            case 0: return text.substring(0, at);
            case 1: return text.substring(0, at) + sign + text.substring(at + 1);
            case 2: return text.substring(0, at) + sign + text.substring(at);
            case 3: return text.substring(0, at) + text.substring(at + 1);
            default: return text;
        }
    }

    private int act() {
        int heap = place();
        int to = place();
        int i = index();
        int j = index();
        int[] box = box();
        switch (random.nextInt(9)) {
            case 0:
            case 1:
                int seed = random.nextInt(20) == 0 ? 999998 + random.nextInt(4) : 1 + random.nextInt(999999);
                due("drawn", x.drawn(box[0], box[1], box[2], seed, to), m.drawn(box[0], box[1], box[2], seed, to));
                return 1;
            case 2:
                int number = random.nextInt(60) - 2;
                due("take", x.take(box[0], box[1], box[2], number, to), m.take(box[0], box[1], box[2], number, to));
                return 1;
            case 3:
                due("turn", x.turn(heap, i % 4, to), m.turn(heap, i % 4, to));
                return 1;
            case 4:
                int other = place();
                due("join", x.join(heap, other, i % 3, to), m.join(heap, other, i % 3, to));
                return 1;
            case 5:
                due("drop", x.drop(heap), m.drop(heap));
                return 1;
            case 6:
                due("off", x.off(heap, i, j), m.off(heap, i, j));
                return 1;
            default:
                due("lay", x.lay(heap, i, j), m.lay(heap, i, j));
                return 1;
        }
    }

    private int keeping() {
        int k = random.nextInt(10) == 0 ? random.nextInt(4) - 1 : random.nextInt(2);
        switch (random.nextInt(8)) {
            case 0:
                due("image " + k, x.image(k), m.image(k));
                return 1;
            case 1:
                due("restore " + k, x.restore(k), m.restore(k));
                return 1;
            case 2:
            case 3:
                int what = random.nextInt(6) - 1;
                due("count " + what, x.count(what), m.count(what));
                return 1;
            case 4:
                int times = random.nextInt(14);
                for (int n = 0; n < times; n++) {
                    due("undo", x.undo(), m.undo());
                }
                return times;
            default:
                due("undo", x.undo(), m.undo());
                return 1;
        }
    }

    private int question() {
        int heap = place();
        int i = index();
        int k = index();
        switch (random.nextInt(7)) {
            case 0:
                due("height", x.height(heap, i, k), m.height(heap, i, k));
                return 1;
            case 1:
                int what = random.nextInt(12) - 1;
                due("whole " + what, x.whole(heap, what), m.whole(heap, what));
                return 1;
            case 2:
                due("path", x.path(heap, i, k + i), m.path(heap, i, k + i));
                return 1;
            case 3:
                due("slice", x.slice(heap, i - k, k), m.slice(heap, i - k, k));
                return 1;
            case 4:
                int u = random.nextInt(13) - 6;
                int v = random.nextInt(25) - 12;
                due("face", x.face(heap, u, v), m.face(heap, u, v));
                return 1;
            case 5:
                due("kin", x.kin(heap, 2 * k), m.kin(heap, 2 * k));
                return 1;
            default:
                due("orders", x.orders(heap), m.orders(heap));
                return 1;
        }
    }

    private int pair() {
        int first = place();
        int second = place();
        int k = random.nextInt(12) - 1;
        if (random.nextInt(3) == 0) {
            due("between", x.between(first, second), m.between(first, second));
        } else {
            due("way " + k, x.way(first, second, k), m.way(first, second, k));
        }
        return 1;
    }
}
