import java.util.Arrays;

/** Plane partitions: heaps of unit cubes in the corner of a box. */
public final class CornerHeaps {
    public static final int NONE = -1000000, BAD = -1000001, STATE = -1000002, FULL = -1000003;

    private static final int PLACES = 4;
    private static final int IMAGES = 2;
    private static final int LONGEST_SIDE = 4;
    private static final int LARGEST_BOX = 48;
    private static final int FAULT_BASE = -1000100;
    private static final int LARGEST_SEED = 999999;
    private static final int LARGEST_ORDERED_VOLUME = 8;
    private static final int MOST_HEAPS_FOR_SYMMETRY = 1000;
    private static final int MOST_HEAPS_FOR_WAYS = 200;

    private final Tape tape;
    private final Heap[] places;
    private final Past past;
    private final Heap[] images;
    private final boolean[] imageKept;
    private final Rows[] rowsBySides;
    private final Kin relatives;
    private final Search search;
    private final long[] coefficients;
    private int latestFault;

    public CornerHeaps() {
        tape = new Tape();
        places = new Heap[PLACES];
        past = new Past();
        images = new Heap[IMAGES * PLACES];
        imageKept = new boolean[IMAGES];
        rowsBySides = new Rows[LONGEST_SIDE * LONGEST_SIDE];
        relatives = new Kin();
        search = new Search();
        coefficients = new long[LARGEST_BOX + 1];
        latestFault = 0;
    }

    // ---- what is told

    public int feed(int letter) {
        if (letter < 0 || letter > 255) {
            return BAD;
        }
        return tape.append(letter) ? tape.length : FULL;
    }

    public int heap(int to) {
        if (!isPlace(to)) {
            return BAD;
        }
        Heap told = tape.readHeap();
        tape.length = 0;
        if (told == null) {
            latestFault = tape.faultNumber;
            return FAULT_BASE - tape.position;
        }
        return put(told, to);
    }

    public int fault() {
        return latestFault;
    }

    public int undo() {
        if (past.size == 0) {
            return STATE;
        }
        past.giveBack(places);
        return past.size;
    }

    public int take(int a, int b, int c, int number, int to) {
        Box box = Box.of(a, b, c);
        if (box == null || !isPlace(to) || number < 0) {
            return BAD;
        }
        Rows rows = rowsOf(box);
        if (number >= rows.heapsWith(a)) {
            return BAD;
        }
        return put(new Heap(box, rows.cubesOf(a, number)), to);
    }

    public int drawn(int a, int b, int c, int seed, int to) {
        Box box = Box.of(a, b, c);
        if (box == null || seed < 1 || seed > LARGEST_SEED || !isPlace(to)) {
            return BAD;
        }
        Rows rows = rowsOf(box);
        int heaps = Math.max(1, rows.heapsWith(a));
        int number = (int) (seed * 16807L % 2147483647L % heaps);
        put(new Heap(box, rows.cubesOf(a, number)), to);
        return number;
    }

    // ---- what is done

    public int lay(int heap, int i, int j) {
        return change(heap, i, j, true);
    }

    public int off(int heap, int i, int j) {
        return change(heap, i, j, false);
    }

    public int turn(int heap, int how, int to) {
        Heap source = heapAt(heap);
        if (source == null || how < 0 || how > 2 || !isPlace(to)) {
            return BAD;
        }
        return put(source.turned(how), to);
    }

    public int join(int x, int y, int how, int to) {
        Heap first = heapAt(x);
        Heap second = heapAt(y);
        if (first == null || second == null || how < 0 || how > 1 || !isPlace(to)) {
            return BAD;
        }
        if (!first.box.sameAs(second.box)) {
            return STATE;
        }
        long cubes = first.box.joined(first.cubes, second.cubes, how == 0);
        return put(new Heap(first.box, cubes), to);
    }

    public int drop(int heap) {
        Heap source = heapAt(heap);
        if (source == null) {
            return BAD;
        }
        put(null, heap);
        return source.volume();
    }

    // ---- a heap

    public int height(int heap, int i, int j) {
        Heap source = heapAt(heap);
        if (source == null || !source.box.hasCell(i, j)) {
            return BAD;
        }
        return source.box.level(source.cubes, i, j);
    }

    public int whole(int heap, int what) {
        Heap source = heapAt(heap);
        if (source == null) {
            return BAD;
        }
        switch (what) {
            case 0: return source.box.a;
            case 1: return source.box.b;
            case 2: return source.box.c;
            case 3: return source.volume();
            case 4: return numberOf(source);
            case 5: return source.box.trace(source.cubes);
            case 6: return source.box.changingCells(source.cubes, true);
            case 7: return source.box.changingCells(source.cubes, false);
            case 8: return source.box.symmetries(source.cubes);
            case 9: return relatives.gather(source);
            default: return BAD;
        }
    }

    public int path(int heap, int i, int k) {
        Heap source = heapAt(heap);
        if (source == null || i < 0 || i >= source.box.a || k < 0) {
            return BAD;
        }
        return source.box.letter(source.cubes, i, k);
    }

    public int slice(int heap, int d, int k) {
        Heap source = heapAt(heap);
        if (source == null || d < 1 - source.box.a || d > source.box.b - 1 || k < 0) {
            return BAD;
        }
        // A greater k is none of any diagonal, and could overflow below.
        if (k >= LONGEST_SIDE) {
            return NONE;
        }
        int i = Math.max(0, -d) + k;
        return source.box.hasCell(i, i + d) ? source.box.level(source.cubes, i, i + d) : NONE;
    }

    public int face(int heap, int u, int v) {
        Heap source = heapAt(heap);
        return source == null ? BAD : source.box.faceAt(source.cubes, u, v);
    }

    public int kin(int heap, int k) {
        Heap source = heapAt(heap);
        if (source == null || k < 0) {
            return BAD;
        }
        Heap relative = k < relatives.gather(source) ? relatives.member(k) : null;
        return relative == null ? NONE : numberOf(relative);
    }

    public int orders(int heap) {
        Heap source = heapAt(heap);
        if (source == null) {
            return BAD;
        }
        int volume = source.volume();
        return volume > LARGEST_ORDERED_VOLUME ? FULL : ordersOf(source.box, source.cubes, volume);
    }

    // ---- heaps of a box

    public int many(int a, int b, int c) {
        Box box = Box.of(a, b, c);
        return box == null ? BAD : rowsOf(box).heapsWith(a);
    }

    public long minor(int a, int b, int c, int k) {
        Box box = Box.of(a, b, c);
        if (box == null || k < 0 || k > a) {
            return BAD;
        }
        return determinant(box, k, 0, 0);
    }

    public int series(int a, int b, int c, int v) {
        Box box = Box.of(a, b, c);
        if (box == null || v < 0) {
            return BAD;
        }
        return v > a * b * c ? 0 : heapsOfVolume(box, v);
    }

    public int weighed(int a, int b, int c, int kind, int q) {
        Box box = Box.of(a, b, c);
        if (box == null || kind < 0 || kind > 4 || q < 1 || q > 9) {
            return BAD;
        }
        return rowsOf(box).sumOfWeights(a, kind, q);
    }

    public int symmetric(int a, int b, int c, int set) {
        Box box = Box.of(a, b, c);
        if (box == null || set < 0 || set > 15) {
            return BAD;
        }
        int heaps = rowsOf(box).heapsWith(a);
        if (heaps > MOST_HEAPS_FOR_SYMMETRY) {
            return FULL;
        }
        int found = 0;
        long cubes = 0;
        for (int n = 0; n < heaps; n++) {
            if (box.hasSymmetries(cubes, set)) {
                found++;
            }
            cubes = box.following(cubes);
        }
        return found;
    }

    public int between(int x, int y) {
        Heap least = heapAt(x);
        Heap most = heapAt(y);
        if (least == null || most == null) {
            return BAD;
        }
        if (!least.box.sameAs(most.box)) {
            return STATE;
        }
        return rowsOf(least.box).heapsBetween(least.box.a, least.cubes, most.cubes);
    }

    public int way(int x, int y, int m) {
        Heap first = heapAt(x);
        Heap last = heapAt(y);
        if (first == null || last == null || m < 0 || m > 9) {
            return BAD;
        }
        if (!first.box.sameAs(last.box)) {
            return STATE;
        }
        int heaps = rowsOf(first.box).heapsWith(first.box.a);
        if (heaps > MOST_HEAPS_FOR_WAYS) {
            return FULL;
        }
        search.prepare(first.box, heaps, m);
        return search.shortest(first.box, first.cubes, last.cubes);
    }

    // ---- images and totals

    public int image(int k) {
        if (k < 0 || k >= IMAGES) {
            return BAD;
        }
        copyPlaces(places, 0, images, k * PLACES);
        imageKept[k] = true;
        return heapsOnPlaces();
    }

    public int restore(int k) {
        if (k < 0 || k >= IMAGES) {
            return BAD;
        }
        if (!imageKept[k]) {
            return STATE;
        }
        copyPlaces(images, k * PLACES, places, 0);
        past.size = 0;
        return heapsOnPlaces();
    }

    public int count(int what) {
        switch (what) {
            case 0: return heapsOnPlaces();
            case 1: return volumeOnPlaces();
            case 2: return past.size;
            case 3: return tape.length;
            default: return BAD;
        }
    }

    // ---- helpers

    private static boolean isPlace(int place) {
        return place >= 0 && place < PLACES;
    }

    private Heap heapAt(int place) {
        return isPlace(place) ? places[place] : null;
    }

    /** Every act goes through here, so that it can be undone. */
    private int put(Heap heap, int to) {
        past.keep(places);
        places[to] = heap;
        return heap == null ? 0 : heap.volume();
    }

    private static void copyPlaces(Heap[] from, int start, Heap[] to, int toStart) {
        for (int place = 0; place < PLACES; place++) {
            to[toStart + place] = from[start + place];
        }
    }

    private int change(int place, int i, int j, boolean adding) {
        Heap source = heapAt(place);
        if (source == null || !source.box.hasCell(i, j)) {
            return BAD;
        }
        if (!source.box.changesAt(source.cubes, i, j, adding)) {
            return STATE;
        }
        long cube = Box.cube(i, j);
        put(new Heap(source.box, adding ? source.cubes + cube : source.cubes - cube), place);
        return height(place, i, j);
    }

    private int heapsOnPlaces() {
        int heaps = 0;
        for (int place = 0; place < PLACES; place++) {
            if (places[place] != null) {
                heaps++;
            }
        }
        return heaps;
    }

    private int volumeOnPlaces() {
        int sum = 0;
        for (int place = 0; place < PLACES; place++) {
            Heap heap = places[place];
            if (heap != null) {
                sum += heap.volume();
            }
        }
        return sum;
    }

    private int numberOf(Heap heap) {
        return rowsOf(heap.box).numberOf(heap.box.a, heap.cubes);
    }

    /** The rows depend on B and C alone; they are dear to make, so each kind is made once. */
    private Rows rowsOf(Box box) {
        int index = (box.b - 1) * LONGEST_SIDE + box.c - 1;
        Rows rows = rowsBySides[index];
        if (rows == null) {
            rows = new Rows(box.b, box.c);
            rowsBySides[index] = rows;
        }
        return rows;
    }

    /** The volume is the depth that is left: the cube that is removed first was added last. */
    private static int ordersOf(Box box, long cubes, int volume) {
        if (volume <= 1) {
            return 1;
        }
        int sum = 0;
        for (int i = 0; i < box.a; i++) {
            for (int j = 0; j < box.b && box.level(cubes, i, j) > 0; j++) {
                if (box.shrinksAt(cubes, i, j)) {
                    sum += ordersOf(box, cubes - Box.cube(i, j), volume - 1);
                }
            }
        }
        return sum;
    }

    /** Expands by the given row; bit j of used says that an earlier row has taken column j. */
    private static long determinant(Box box, int size, int row, int used) {
        if (row >= size) {
            return 1;
        }
        long sum = 0;
        int sign = 1;
        for (int column = 0; column < size; column++) {
            if (((used >> column) & 1) == 0) {
                long element = choose(box.b + box.c, box.c + column - row);
                sum += sign * element * determinant(box, size, row + 1, used | (1 << column));
                sign = -sign;
            }
        }
        return sum;
    }

    private static int choose(int n, int k) {
        if (k < 0 || k > n) {
            return 0;
        }
        int result = 1;
        for (int t = 1; t <= k; t++) {
            result = result * (n - k + t) / t;
        }
        return result;
    }

    /**
     * By MacMahon's formula: the heaps of volume v are the coefficient of x^v in the product of
     * (1 - x^(i + j + c - 1)) / (1 - x^(i + j - 1)) over all i from 1 to a and j from 1 to b.
     */
    private int heapsOfVolume(Box box, int v) {
        int most = Math.min(v, LARGEST_BOX);
        Arrays.fill(coefficients, 0L);
        coefficients[0] = 1;
        for (int i = 1; i <= box.a; i++) {
            for (int j = 1; j <= box.b; j++) {
                int above = i + j + box.c - 1;
                for (int n = most; n >= above; n--) {
                    coefficients[n] -= coefficients[n - above];
                }
                int below = i + j - 1;
                for (int n = below; n <= most; n++) {
                    coefficients[n] += coefficients[n - below];
                }
            }
        }
        return (int) coefficients[most];
    }

    // ---- classes inside

    /**
     * A box, and what can be said of the heaps in it. The heights of a heap stand in one long, four
     * bits each, h(0, 0) first and sixteen bits to a row: so heaps of one box have the order of
     * their longs, and walking through many heaps makes no objects.
     */
    private static final class Box {
        final int a;
        final int b;
        final int c;

        private Box(int a, int b, int c) {
            this.a = a;
            this.b = b;
            this.c = c;
        }

        static boolean inRange(int a, int b, int c) {
            return isSide(a) && isSide(b) && isSide(c) && a * b * c <= LARGEST_BOX;
        }

        private static boolean isSide(int side) {
            return side >= 1 && side <= LONGEST_SIDE;
        }

        /** The box, or null if it is out of range. */
        static Box of(int a, int b, int c) {
            return inRange(a, b, c) ? new Box(a, b, c) : null;
        }

        /** One cube at (i, j): added to the heights it adds 1 to h(i, j). */
        static long cube(int i, int j) {
            return 1L << (60 - 16 * i - 4 * j);
        }

        static int rowIn(long cubes, int i) {
            return (int) (cubes >>> (48 - 16 * i)) & 0xFFFF;
        }

        static long withRow(long cubes, int i, int row) {
            return cubes | ((long) row << (48 - 16 * i));
        }

        static int heightInRow(int row, int j) {
            return (row >> (12 - 4 * j)) & 15;
        }

        static int volume(long cubes) {
            int sum = 0;
            for (int shift = 0; shift < 64; shift += 4) {
                sum += (int) (cubes >>> shift) & 15;
            }
            return sum;
        }

        boolean sameAs(Box other) {
            return a == other.a && b == other.b && c == other.c;
        }

        boolean hasCell(int i, int j) {
            return i >= 0 && i < a && j >= 0 && j < b;
        }

        /** The height at (i, j), where walls of height C stand before the box and nothing behind. */
        int level(long cubes, int i, int j) {
            if (i < 0 || j < 0) {
                return c;
            }
            if (i >= a || j >= b) {
                return 0;
            }
            return (int) (cubes >>> (60 - 16 * i - 4 * j)) & 15;
        }

        boolean growsAt(long cubes, int i, int j) {
            int height = level(cubes, i, j);
            return height < level(cubes, i - 1, j) && height < level(cubes, i, j - 1);
        }

        boolean shrinksAt(long cubes, int i, int j) {
            int height = level(cubes, i, j);
            return height > level(cubes, i + 1, j) && height > level(cubes, i, j + 1);
        }

        boolean changesAt(long cubes, int i, int j, boolean growing) {
            return growing ? growsAt(cubes, i, j) : shrinksAt(cubes, i, j);
        }

        int changingCells(long cubes, boolean growing) {
            int cells = 0;
            for (int i = 0; i < a; i++) {
                for (int j = 0; j < b; j++) {
                    if (changesAt(cubes, i, j, growing)) {
                        cells++;
                    }
                }
            }
            return cells;
        }

        int trace(long cubes) {
            int sum = 0;
            for (int i = 0; i < a && i < b; i++) {
                sum += level(cubes, i, i);
            }
            return sum;
        }

        /** The next heap in the order: the last cell that can grow does, and all behind it is empty. */
        long following(long cubes) {
            for (int i = a - 1; i >= 0; i--) {
                for (int j = b - 1; j >= 0; j--) {
                    if (growsAt(cubes, i, j)) {
                        long cube = cube(i, j);
                        return (cubes & -cube) + cube;
                    }
                }
            }
            // The full heap is the last one.
            return cubes;
        }

        long joined(long first, long second, boolean greater) {
            long cubes = 0;
            for (int i = 0; i < a; i++) {
                for (int j = 0; j < b; j++) {
                    int x = level(first, i, j);
                    int y = level(second, i, j);
                    cubes += cube(i, j) * (greater ? Math.max(x, y) : Math.min(x, y));
                }
            }
            return cubes;
        }

        long transposed(long cubes) {
            long turned = 0;
            for (int i = 0; i < a; i++) {
                for (int j = 0; j < b; j++) {
                    turned += cube(j, i) * level(cubes, i, j);
                }
            }
            return turned;
        }

        long rotated(long cubes) {
            long turned = 0;
            for (int i = 0; i < a; i++) {
                for (int j = 0; j < b; j++) {
                    int height = level(cubes, i, j);
                    for (int z = 0; z < height; z++) {
                        turned += cube(j, z);
                    }
                }
            }
            return turned;
        }

        long complemented(long cubes) {
            long turned = 0;
            for (int i = 0; i < a; i++) {
                for (int j = 0; j < b; j++) {
                    turned += cube(i, j) * (c - level(cubes, a - 1 - i, b - 1 - j));
                }
            }
            return turned;
        }

        int symmetries(long cubes) {
            int set = 0;
            for (int bit = 0; bit < 4; bit++) {
                if (hasSymmetry(cubes, bit)) {
                    set |= 1 << bit;
                }
            }
            return set;
        }

        boolean hasSymmetries(long cubes, int set) {
            for (int bit = 0; bit < 4; bit++) {
                if (((set >> bit) & 1) == 1 && !hasSymmetry(cubes, bit)) {
                    return false;
                }
            }
            return true;
        }

        /** A turned heap can be the same one only if its box is. */
        private boolean hasSymmetry(long cubes, int bit) {
            switch (bit) {
                case 0: return a == b && cubes == transposed(cubes);
                case 1: return a == b && b == c && cubes == rotated(cubes);
                case 2: return cubes == complemented(cubes);
                default: return a == b && cubes == complemented(transposed(cubes));
            }
        }

        int letter(long cubes, int i, int k) {
            if (k >= b + c) {
                return NONE;
            }
            int height = c;
            int j = 0;
            for (int index = 0; index < k; index++) {
                if (isFlat(cubes, i, j, height)) {
                    j++;
                } else {
                    height--;
                }
            }
            return isFlat(cubes, i, j, height) ? 'e' : 'n';
        }

        private boolean isFlat(long cubes, int i, int j, int height) {
            return j < b && level(cubes, i, j) == height;
        }

        int faceAt(long cubes, int u, int v) {
            for (int i = -1; i < a; i++) {
                for (int j = -1; j < b; j++) {
                    int across = 2 * (j - i);
                    int down = 2 * i + 2 * j;
                    int height = level(cubes, i, j);
                    if (i >= 0 && j >= 0 && u == across && v == 4 * height - down - 2) {
                        return 1;
                    }
                    if (j >= 0 && u == across - 1
                            && isSideFace(v, down, level(cubes, i + 1, j), height)) {
                        return 2;
                    }
                    if (i >= 0 && u == across + 1
                            && isSideFace(v, down, level(cubes, i, j + 1), height)) {
                        return 3;
                    }
                }
            }
            return 0;
        }

        private static boolean isSideFace(int v, int down, int lower, int upper) {
            for (int z = lower + 1; z <= upper; z++) {
                if (v == 4 * z - down - 5) {
                    return true;
                }
            }
            return false;
        }
    }

    /** A heap in its box. It never changes, so places, images and the past can share it. */
    private static final class Heap {
        final Box box;
        final long cubes;

        Heap(Box box, long cubes) {
            this.box = box;
            this.cubes = cubes;
        }

        int volume() {
            return Box.volume(cubes);
        }

        Heap turned(int how) {
            switch (how) {
                case 0: return new Heap(new Box(box.b, box.a, box.c), box.transposed(cubes));
                case 1: return new Heap(new Box(box.b, box.c, box.a), box.rotated(cubes));
                default: return new Heap(box, box.complemented(cubes));
            }
        }

        boolean equalTo(Heap other) {
            return box.sameAs(other.box) && cubes == other.cubes;
        }

        boolean before(Heap other) {
            if (box.a != other.box.a) {
                return box.a < other.box.a;
            }
            if (box.b != other.box.b) {
                return box.b < other.box.b;
            }
            if (box.c != other.box.c) {
                return box.c < other.box.c;
            }
            return cubes < other.cubes;
        }
    }

    /** All rows that can stand in a heap with B columns and the height C, in their order. */
    private static final class Rows {
        private static final long MODULUS = 1000000007L;

        private final int[] row;
        /** under[n][k]: in how many ways n more rows can follow row k. */
        private final int[][] under;
        /** now[k]: the sum over all beginnings of heaps that end with row k; next: one row later. */
        private final long[] now;
        private final long[] next;

        Rows(int b, int c) {
            int size = choose(b + c, b);
            row = new int[size];
            under = new int[LONGEST_SIDE + 1][size];
            now = new long[size];
            next = new long[size];
            Box flat = new Box(1, b, c);
            long cubes = 0;
            for (int k = 0; k < size; k++) {
                row[k] = Box.rowIn(cubes, 0);
                cubes = flat.following(cubes);
            }
            countUnder();
        }

        private void countUnder() {
            Arrays.fill(under[0], 1);
            for (int n = 1; n <= LONGEST_SIDE; n++) {
                for (int k = 0; k < row.length; k++) {
                    int sum = 0;
                    for (int lower = 0; lower <= k; lower++) {
                        if (covers(row[k], row[lower])) {
                            sum += under[n - 1][lower];
                        }
                    }
                    under[n][k] = sum;
                }
            }
        }

        /** No height is above 4, so a bit set above each one is lent away where lower is greater. */
        private static boolean covers(int upper, int lower) {
            return (((upper | 0x8888) - lower) & 0x8888) == 0x8888;
        }

        /** How many heaps with this many rows there are; a full row may stand before them all. */
        int heapsWith(int a) {
            return under[a][row.length - 1];
        }

        int numberOf(int a, long cubes) {
            int number = 0;
            int above = row[row.length - 1];
            for (int i = 0; i < a; i++) {
                int own = Box.rowIn(cubes, i);
                for (int k = 0; k < row.length && row[k] < own; k++) {
                    if (covers(above, row[k])) {
                        number += under[a - 1 - i][k];
                    }
                }
                above = own;
            }
            return number;
        }

        long cubesOf(int a, int number) {
            long cubes = 0;
            int left = number;
            int above = row[row.length - 1];
            for (int i = 0; i < a; i++) {
                for (int k = 0; k < row.length; k++) {
                    int ways = covers(above, row[k]) ? under[a - 1 - i][k] : 0;
                    if (left < ways) {
                        above = row[k];
                        cubes = Box.withRow(cubes, i, above);
                        break;
                    }
                    left -= ways;
                }
            }
            return cubes;
        }

        int heapsBetween(int a, long least, long most) {
            beginWithFullRow();
            for (int i = 0; i < a; i++) {
                int lowest = Box.rowIn(least, i);
                int highest = Box.rowIn(most, i);
                for (int k = 0; k < row.length; k++) {
                    boolean fits = covers(row[k], lowest) && covers(highest, row[k]);
                    next[k] = fits ? now[k] + sumOfOthersAbove(k) : 0;
                }
                goToNextRow();
            }
            return (int) sumOfAll();
        }

        int sumOfWeights(int a, int kind, int q) {
            beginWithFullRow();
            for (int i = 0; i < a; i++) {
                for (int k = 0; k < row.length; k++) {
                    long weight = power(q, exponent(kind, row[k], i));
                    long weightBehindSame = kind == 4 ? 1 : weight;
                    long others = sumOfOthersAbove(k) % MODULUS * weight % MODULUS;
                    next[k] = (others + now[k] * weightBehindSame) % MODULUS;
                }
                goToNextRow();
            }
            return (int) (sumOfAll() % MODULUS);
        }

        /** What row i adds to the exponent of q, if it differs from the row before. */
        private static int exponent(int kind, int row, int i) {
            switch (kind) {
                case 1: return sumOfHeights(row);
                case 2: return Box.heightInRow(row, i);
                case 3: return heightsAboveZero(row);
                case 4: return 1;
                default: return 0;
            }
        }

        private static int sumOfHeights(int row) {
            int sum = 0;
            for (int j = 0; j < LONGEST_SIDE; j++) {
                sum += Box.heightInRow(row, j);
            }
            return sum;
        }

        private static int heightsAboveZero(int row) {
            int heights = 0;
            for (int j = 0; j < LONGEST_SIDE; j++) {
                if (Box.heightInRow(row, j) > 0) {
                    heights++;
                }
            }
            return heights;
        }

        private static long power(int q, int exponent) {
            long result = 1;
            for (int n = 0; n < exponent; n++) {
                result = result * q % MODULUS;
            }
            return result;
        }

        private void beginWithFullRow() {
            Arrays.fill(now, 0L);
            now[now.length - 1] = 1;
        }

        /** Only later rows can cover row k, beside itself. */
        private long sumOfOthersAbove(int k) {
            long sum = 0;
            for (int upper = k + 1; upper < row.length; upper++) {
                if (covers(row[upper], row[k])) {
                    sum += now[upper];
                }
            }
            return sum;
        }

        private void goToNextRow() {
            System.arraycopy(next, 0, now, 0, now.length);
        }

        private long sumOfAll() {
            long sum = 0;
            for (int k = 0; k < now.length; k++) {
                sum += now[k];
            }
            return sum;
        }
    }

    /** The places as they were before each of the latest acts, in a ring. */
    private static final class Past {
        private static final int MOST_ACTS = 12;

        private final Heap[] kept = new Heap[MOST_ACTS * PLACES];
        private int newest = 0;
        int size = 0;

        void keep(Heap[] places) {
            newest = (newest + 1) % MOST_ACTS;
            copyPlaces(places, 0, kept, newest * PLACES);
            size = Math.min(size + 1, MOST_ACTS);
        }

        void giveBack(Heap[] places) {
            copyPlaces(kept, newest * PLACES, places, 0);
            newest = (newest + MOST_ACTS - 1) % MOST_ACTS;
            size--;
        }
    }

    /** The kin of one heap at a time, in their order. */
    private static final class Kin {
        private static final int MOST = 12;

        private final Heap[] members = new Heap[MOST];
        private int size = 0;

        /** Any sequence of turns is one of three rotations, with or without both other turns. */
        int gather(Heap heap) {
            size = 0;
            Heap turned = heap;
            for (int side = 0; side < 2; side++) {
                for (int rotations = 0; rotations < 3; rotations++) {
                    insert(turned);
                    insert(turned.turned(0));
                    turned = turned.turned(1);
                }
                turned = turned.turned(2);
            }
            return size;
        }

        Heap member(int k) {
            return k >= 0 && k < size ? members[k] : null;
        }

        private void insert(Heap heap) {
            int at = 0;
            while (at < size && members[at].before(heap)) {
                at++;
            }
            if (size >= MOST || (at < size && members[at].equalTo(heap))) {
                return;
            }
            for (int k = size; k > at; k--) {
                members[k] = members[k - 1];
            }
            members[at] = heap;
            size++;
        }
    }

    /** Looks for shortest ways among all heaps of a small box, breadth first. */
    private static final class Search {
        private static final int UNSEEN = -1;
        private static final int FORBIDDEN = -2;

        private final long[] heaps = new long[MOST_HEAPS_FOR_WAYS];
        private final int[] steps = new int[MOST_HEAPS_FOR_WAYS];
        private final int[] queue = new int[MOST_HEAPS_FOR_WAYS];
        private int size = 0;
        private int queued = 0;

        void prepare(Box box, int heapsInBox, int m) {
            size = Math.min(heapsInBox, MOST_HEAPS_FOR_WAYS);
            queued = 0;
            long cubes = 0;
            for (int n = 0; n < size; n++) {
                heaps[n] = cubes;
                steps[n] = m != 0 && Box.volume(cubes) % m == 0 ? FORBIDDEN : UNSEEN;
                cubes = box.following(cubes);
            }
        }

        int shortest(Box box, long from, long to) {
            int first = indexOf(from);
            int last = indexOf(to);
            if (first < 0 || last < 0) {
                return NONE;
            }
            // What forbids heaps on the way does not count at its ends.
            steps[last] = UNSEEN;
            steps[first] = UNSEEN;
            reach(first, 0);
            for (int n = 0; n < queued && steps[last] < 0; n++) {
                reachNeighbours(box, queue[n]);
            }
            return steps[last] < 0 ? NONE : steps[last];
        }

        private void reachNeighbours(Box box, int index) {
            long cubes = heaps[index];
            for (int i = 0; i < box.a; i++) {
                for (int j = 0; j < box.b; j++) {
                    if (box.growsAt(cubes, i, j)) {
                        reach(indexOf(cubes + Box.cube(i, j)), steps[index] + 1);
                    }
                    if (box.shrinksAt(cubes, i, j)) {
                        reach(indexOf(cubes - Box.cube(i, j)), steps[index] + 1);
                    }
                }
            }
        }

        private void reach(int index, int step) {
            if (index >= 0 && steps[index] == UNSEEN && queued < size) {
                steps[index] = step;
                queue[queued] = index;
                queued++;
            }
        }

        private int indexOf(long cubes) {
            int low = 0;
            int high = size - 1;
            // Each round leaves at most half of the heaps, so there are fewer rounds than heaps.
            for (int round = 0; round < size && low <= high; round++) {
                int middle = (low + high) / 2;
                if (heaps[middle] == cubes) {
                    return middle;
                }
                if (heaps[middle] < cubes) {
                    low = middle + 1;
                } else {
                    high = middle - 1;
                }
            }
            return -1;
        }
    }

    /** The tape, and how the text on it is read. */
    private static final class Tape {
        private static final int CAPACITY = 60;
        private static final int UNTOLD = -1;
        private static final int MISPLACED = 1;
        private static final int NOT_AS_TOLD = 2;

        private final int[] bytes = new int[CAPACITY];
        private final int[] told = new int[LONGEST_SIDE * LONGEST_SIDE];
        private int a = 0;
        private int b = 0;
        private int c = 0;
        int length = 0;
        /** How far reading has come; where there is a fault, it stays there. */
        int position = 0;
        int faultNumber = 0;

        boolean append(int letter) {
            if (length >= CAPACITY) {
                return false;
            }
            bytes[length] = letter;
            length++;
            return true;
        }

        /** The heap, or null if there is a fault. */
        Heap readHeap() {
            position = 0;
            faultNumber = 0;
            Arrays.fill(told, UNTOLD);
            if (!readSign('x') || !readSides() || !readHeights() || !readSign(';')) {
                return null;
            }
            if (position < length) {
                failed(MISPLACED);
                return null;
            }
            return new Heap(new Box(a, b, c), toldCubes());
        }

        private boolean failed(int number) {
            faultNumber = number;
            return false;
        }

        private int sign() {
            return position < length && position < CAPACITY ? bytes[position] : -1;
        }

        private boolean readSign(int wanted) {
            if (sign() != wanted) {
                return failed(MISPLACED);
            }
            position++;
            return true;
        }

        private boolean isDigit() {
            return sign() >= '0' && sign() <= '9';
        }

        private boolean isLetter() {
            return sign() == 'e' || sign() == 'n';
        }

        private boolean readSides() {
            a = sign() - '0';
            if (!readSide(a, 1, 1)) {
                return false;
            }
            b = sign() - '0';
            if (!readSide(a, b, 1)) {
                return false;
            }
            c = sign() - '0';
            return readSide(a, b, c);
        }

        /** A side that is still to come counts as 1, with which no box is too large. */
        private boolean readSide(int rows, int columns, int top) {
            if (!isDigit()) {
                return failed(MISPLACED);
            }
            if (!Box.inRange(rows, columns, top)) {
                return failed(NOT_AS_TOLD);
            }
            position++;
            return true;
        }

        private boolean readHeights() {
            int form = sign();
            switch (form) {
                case 'r':
                    position++;
                    return readRows();
                case 'd':
                    position++;
                    return readDiagonals();
                case 'p':
                    position++;
                    return readWords();
                default:
                    return failed(MISPLACED);
            }
        }

        private boolean readRows() {
            for (int i = 0; i < a; i++) {
                for (int j = 0; j < b; j++) {
                    if (!readHeight(i, j)) {
                        return false;
                    }
                }
            }
            return true;
        }

        private boolean readDiagonals() {
            for (int d = 1 - a; d < b; d++) {
                for (int i = Math.max(0, -d); i < a && i + d < b; i++) {
                    if (!readHeight(i, i + d)) {
                        return false;
                    }
                }
            }
            return true;
        }

        private boolean readHeight(int i, int j) {
            if (!isDigit()) {
                return failed(MISPLACED);
            }
            if (!tell(i, j, sign() - '0')) {
                return failed(NOT_AS_TOLD);
            }
            position++;
            return true;
        }

        private boolean readWords() {
            for (int i = 0; i < a; i++) {
                if (i > 0 && !readSign(',')) {
                    return false;
                }
                if (!readWord(i)) {
                    return false;
                }
            }
            return true;
        }

        private boolean readWord(int i) {
            int column = 0;
            int height = c;
            for (int letters = 0; letters < b + c; letters++) {
                int letter = sign();
                if (letter == 'e') {
                    if (column >= b || !tell(i, column, height)) {
                        return failed(NOT_AS_TOLD);
                    }
                    column++;
                } else if (letter == 'n') {
                    if (height <= 0) {
                        return failed(NOT_AS_TOLD);
                    }
                    height--;
                } else {
                    return failed(MISPLACED);
                }
                position++;
            }
            // A whole word has all letters of both kinds, so one more is of the right sort, but too many.
            return !isLetter() || failed(NOT_AS_TOLD);
        }

        /** Notes a height, unless what has been told already rules it out. */
        private boolean tell(int i, int j, int height) {
            int most = Math.min(toldAt(i - 1, j, c), toldAt(i, j - 1, c));
            int least = Math.max(toldAt(i + 1, j, 0), toldAt(i, j + 1, 0));
            if (height > most || height < least) {
                return false;
            }
            told[i * LONGEST_SIDE + j] = height;
            return true;
        }

        private int toldAt(int i, int j, int ifUntold) {
            if (i < 0 || i >= LONGEST_SIDE || j < 0 || j >= LONGEST_SIDE) {
                return ifUntold;
            }
            int height = told[i * LONGEST_SIDE + j];
            return height == UNTOLD ? ifUntold : height;
        }

        private long toldCubes() {
            long cubes = 0;
            for (int i = 0; i < a; i++) {
                for (int j = 0; j < b; j++) {
                    cubes += Box.cube(i, j) * toldAt(i, j, 0);
                }
            }
            return cubes;
        }
    }
}
