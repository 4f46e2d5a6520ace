import java.util.ArrayList;
import java.util.List;

/** What tests share: objects with heaps on them, wrong arguments, and all that can be seen of an object. */
final class Bench {
    static final int NONE = -1000000;
    static final int BAD = -1000001;
    static final int STATE = -1000002;
    static final int FULL = -1000003;
    static final int MIN = Integer.MIN_VALUE;
    static final int MAX = Integer.MAX_VALUE;
    static final int[] NO_PLACES = {MIN, MIN + 1, -4, -1, 4, 5, 1 << 16, MAX};
    /** Some have a product that wraps around to one from 0 to 48. */
    static final int[][] NO_BOXES = {{0, 1, 1}, {1, 0, 1}, {1, 1, 0}, {5, 1, 1}, {1, 5, 1}, {1, 1, 5},
        {-1, 2, 2}, {2, -1, 2}, {2, 2, -1}, {-2, -2, 1}, {1, -2, -2}, {-2, 1, -2}, {4, 4, 4}, {0, 0, 0},
        {MIN, 1, 1}, {1, MIN, 1}, {1, 1, MIN}, {MAX, 1, 1}, {1, MAX, 1}, {1, 1, MAX}, {MIN, 2, 1},
        {1 << 16, 1 << 16, 1}, {1, 1 << 16, 1 << 16}, {1 << 30, 4, 4}, {4, 4, 1 << 30}, {48, 1, 1}, {1, 6, 8},
        {1 + (1 << 30), 4, 1}, {2, 1 + MAX, 3}};

    interface Call {
        long on(CornerHeaps x);
    }

    interface BoxTest {
        void with(int a, int b, int c);
    }

    private Bench() {
    }

    static void write(CornerHeaps x, String text) {
        for (int n = 0; n < text.length(); n++) {
            x.feed(text.charAt(n));
        }
    }

    static int read(CornerHeaps x, String text, int to) {
        write(x, text);
        return x.heap(to);
    }

    /** A new object with heaps on its first places; an empty text leaves a place without one. */
    static CornerHeaps with(String... texts) {
        CornerHeaps x = new CornerHeaps();
        for (int place = 0; place < texts.length; place++) {
            if (!texts[place].isEmpty()) {
                read(x, texts[place], place);
            }
        }
        return x;
    }

    /** A heap as a text of rows, or nothing. */
    static String shown(CornerHeaps x, int place) {
        StringBuilder text = new StringBuilder();
        for (int i = 0; i < x.whole(place, 0); i++) {
            for (int j = 0; j < x.whole(place, 1); j++) {
                text.append(x.height(place, i, j));
            }
        }
        return text.length() == 0 ? ""
                : "x" + x.whole(place, 0) + x.whole(place, 1) + x.whole(place, 2) + "r" + text + ";";
    }

    static String places(CornerHeaps x) {
        return shown(x, 0) + "|" + shown(x, 1) + "|" + shown(x, 2) + "|" + shown(x, 3);
    }

    static void everyBox(BoxTest test) {
        for (int[] box : boxes()) {
            test.with(box[0], box[1], box[2]);
        }
    }

    private static List<int[]> boxes() {
        List<int[]> boxes = new ArrayList<>();
        for (int n = 0; n < 64; n++) {
            int[] box = {1 + n / 16, 1 + n / 4 % 4, 1 + n % 4};
            if (n < 63) {
                boxes.add(box);
            }
        }
        return boxes;
    }

    static String box(int a, int b, int c) {
        return a + ", " + b + ", " + c;
    }

    /** A text of rows with the same height everywhere. */
    static String flat(int a, int b, int c, int height) {
        return "x" + a + b + c + "r" + String.valueOf(height).repeat(a * b) + ";";
    }

    /**
     * An object in which everything is used: heaps on places 0 to 2 (those of 0 and 1 in one box), acts,
     * image 0, a fault and a tape.
     */
    static CornerHeaps busy() {
        CornerHeaps x = with("x222r2010;", "x222r1100;", "x123r31;");
        x.image(0);
        x.take(3, 4, 4, 12345, 3);
        x.lay(0, 0, 1);
        x.drop(3);
        read(x, "x115", 0);
        write(x, "x212r21;");
        return x;
    }

    /** All that can be seen of an object, up to what undo and the images bring back; it is used up then. */
    static String remains(CornerHeaps x) {
        StringBuilder all = new StringBuilder(places(x));
        for (int what = 0; what <= 3; what++) {
            all.append(' ').append(x.count(what));
        }
        all.append(" fault ").append(x.fault());
        for (int n = 0; n <= 13; n++) {
            all.append(" undo ").append(x.undo()).append(' ').append(places(x));
        }
        for (int k = 0; k <= 1; k++) {
            all.append(" restore ").append(x.restore(k)).append(' ').append(places(x));
        }
        all.append(" heap ").append(x.heap(3)).append(' ').append(places(x)).append(' ').append(x.fault());
        return all.toString();
    }

    /** A refused call answers its code, and leaves all as it is on a twin that was not called. */
    static void refused(String call, int code, Call refused) {
        CornerHeaps x = busy();
        Checks.due(call, refused.on(x), code);
        Checks.same("what remains after " + call, remains(x), remains(busy()));
    }

    /** A text with a fault of the given number at the given index. */
    static void fault(String text, int position, int number) {
        CornerHeaps x = new CornerHeaps();
        Checks.due("heap of " + text, read(x, text, 0), -1000100 - position);
        Checks.due("fault of " + text, x.fault(), number);
    }

    /** A text without a fault, and the heap that it tells. */
    static void right(String text, String rows) {
        CornerHeaps x = new CornerHeaps();
        int volume = rows.substring(5).chars().filter(Character::isDigit).map(sign -> sign - '0').sum();
        Checks.due("heap of " + text, read(x, text, 2), volume);
        Checks.due("fault of " + text, x.fault(), 0);
        Checks.same("the heap of " + text, shown(x, 2), rows);
    }
}
