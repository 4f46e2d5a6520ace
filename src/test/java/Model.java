import java.math.BigInteger;
import java.util.ArrayDeque;
import java.util.ArrayList;
import java.util.Arrays;
import java.util.HashMap;
import java.util.List;
import java.util.Map;
import java.util.TreeMap;

/**
 * The document's face a second time, by listing all heaps and trying everything out, so that it shares
 * neither the tables nor the formulas of CornerHeaps.
 */
final class Model {
    static final int NONE = -1000000;
    static final int BAD = -1000001;
    static final int STATE = -1000002;
    static final int FULL = -1000003;

    private static final Map<String, List<int[][]>> LISTS = new HashMap<>();
    private static final Map<String, Integer> NUMBERS = new HashMap<>();

    /** A heap with its box; the heights are never changed. */
    record Pile(int a, int b, int c, int[][] h) {
        String key() {
            return a + " " + b + " " + c + " " + Arrays.deepToString(h);
        }
    }

    private Pile[] places = new Pile[4];
    private final Pile[][] images = new Pile[2][];
    private final ArrayDeque<Pile[]> past = new ArrayDeque<>();
    private String tape = "";
    private int faultNumber = 0;

    // ---- boxes

    static boolean isBox(int a, int b, int c) {
        return a >= 1 && a <= 4 && b >= 1 && b <= 4 && c >= 1 && c <= 4 && a * b * c <= 48;
    }

    static List<int[][]> list(int a, int b, int c) {
        String box = a + " " + b + " " + c;
        List<int[][]> heaps = LISTS.get(box);
        if (heaps == null) {
            heaps = new ArrayList<>();
            extend(new int[a][b], 0, c, heaps);
            LISTS.put(box, heaps);
            for (int n = 0; n < heaps.size(); n++) {
                NUMBERS.put(new Pile(a, b, c, heaps.get(n)).key(), n);
            }
        }
        return heaps;
    }

    private static void extend(int[][] h, int cell, int c, List<int[][]> heaps) {
        int b = h[0].length;
        if (cell == h.length * b) {
            heaps.add(copy(h));
            return;
        }
        for (int height = 0; height <= c; height++) {
            int i = cell / b;
            int j = cell % b;
            if ((i == 0 || height <= h[i - 1][j]) && (j == 0 || height <= h[i][j - 1])) {
                h[i][j] = height;
                extend(h, cell + 1, c, heaps);
            }
        }
    }

    private static int[][] copy(int[][] h) {
        int[][] copy = new int[h.length][];
        for (int i = 0; i < h.length; i++) {
            copy[i] = h[i].clone();
        }
        return copy;
    }

    static int number(Pile pile) {
        list(pile.a, pile.b, pile.c);
        return NUMBERS.getOrDefault(pile.key(), -1);
    }

    private static int volume(int[][] h) {
        int sum = 0;
        for (int[] row : h) {
            sum += Arrays.stream(row).sum();
        }
        return sum;
    }

    private static int trace(int[][] h) {
        int sum = 0;
        for (int i = 0; i < Math.min(h.length, h[0].length); i++) {
            sum += h[i][i];
        }
        return sum;
    }

    // ---- turns

    static Pile turned(Pile p, int how) {
        if (how == 0) {
            int[][] h = new int[p.b][p.a];
            for (int i = 0; i < p.a; i++) {
                for (int j = 0; j < p.b; j++) {
                    h[j][i] = p.h[i][j];
                }
            }
            return new Pile(p.b, p.a, p.c, h);
        }
        if (how == 1) {
            int[][] h = new int[p.b][p.c];
            for (int j = 0; j < p.b; j++) {
                for (int z = 0; z < p.c; z++) {
                    for (int i = 0; i < p.a; i++) {
                        h[j][z] += p.h[i][j] > z ? 1 : 0;
                    }
                }
            }
            return new Pile(p.b, p.c, p.a, h);
        }
        int[][] h = new int[p.a][p.b];
        for (int i = 0; i < p.a; i++) {
            for (int j = 0; j < p.b; j++) {
                h[i][j] = p.c - p.h[p.a - 1 - i][p.b - 1 - j];
            }
        }
        return new Pile(p.a, p.b, p.c, h);
    }

    private static int symmetries(Pile p) {
        String key = p.key();
        return (key.equals(turned(p, 0).key()) ? 1 : 0)
                + (key.equals(turned(p, 1).key()) ? 2 : 0)
                + (key.equals(turned(p, 2).key()) ? 4 : 0)
                + (key.equals(turned(turned(p, 0), 2).key()) ? 8 : 0);
    }

    private static List<Pile> relatives(Pile pile) {
        TreeMap<String, Pile> found = new TreeMap<>();
        ArrayDeque<Pile> open = new ArrayDeque<>();
        open.add(pile);
        while (!open.isEmpty()) {
            Pile p = open.remove();
            String key = String.format("%d %d %d %08d", p.a, p.b, p.c, number(p));
            if (found.putIfAbsent(key, p) == null) {
                for (int how = 0; how < 3; how++) {
                    open.add(turned(p, how));
                }
            }
        }
        return new ArrayList<>(found.values());
    }

    // ---- texts

    static String rowText(Pile p) {
        StringBuilder text = new StringBuilder("x" + p.a + p.b + p.c + "r");
        for (int[] row : p.h) {
            for (int height : row) {
                text.append(height);
            }
        }
        return text.append(';').toString();
    }

    static String diagonalText(Pile p) {
        StringBuilder text = new StringBuilder("x" + p.a + p.b + p.c + "d");
        for (int d = 1 - p.a; d <= p.b - 1; d++) {
            for (int i = 0; i < p.a; i++) {
                if (i + d >= 0 && i + d < p.b) {
                    text.append(p.h[i][i + d]);
                }
            }
        }
        return text.append(';').toString();
    }

    static String word(Pile p, int i) {
        StringBuilder word = new StringBuilder();
        for (int height = p.c; height >= 0; height--) {
            for (int j = 0; j < p.b; j++) {
                if (p.h[i][j] == height) {
                    word.append('e');
                }
            }
            if (height > 0) {
                word.append('n');
            }
        }
        return word.toString();
    }

    static String pathText(Pile p) {
        StringBuilder text = new StringBuilder("x" + p.a + p.b + p.c + "p");
        for (int i = 0; i < p.a; i++) {
            text.append(i == 0 ? "" : ",").append(word(p, i));
        }
        return text.append(';').toString();
    }

    /**
     * The fault of a text as position * 10 + number, or -1. A longest beginning that some whole text
     * shares has its fault at the next byte; the number then depends on the sort that is due there.
     */
    static int faultOf(String text) {
        String best = longestBeginning(text);
        if (best.length() == text.length() && text.endsWith(";")) {
            return -1;
        }
        int position = best.length();
        if (position == text.length()) {
            return position * 10 + 1;
        }
        return position * 10 + (sortDue(best).indexOf(text.charAt(position)) >= 0 ? 2 : 1);
    }

    private static String longestBeginning(String text) {
        int most = 0;
        if (text.startsWith("x")) {
            most = 1;
            for (int a = 1; a <= 4; a++) {
                for (int b = 1; b <= 4; b++) {
                    for (int c = 1; c <= 4; c++) {
                        if (isBox(a, b, c)) {
                            most = Math.max(most, shared(text, "x" + a + b + c));
                        }
                    }
                }
            }
        }
        if (most == 4 && text.length() > 4 && "rdp".indexOf(text.charAt(4)) >= 0) {
            int a = text.charAt(1) - '0';
            int b = text.charAt(2) - '0';
            int c = text.charAt(3) - '0';
            for (int[][] h : list(a, b, c)) {
                Pile p = new Pile(a, b, c, h);
                String whole = text.charAt(4) == 'r' ? rowText(p)
                        : text.charAt(4) == 'd' ? diagonalText(p) : pathText(p);
                most = Math.max(most, shared(text, whole));
            }
        }
        return text.substring(0, most);
    }

    private static int shared(String text, String whole) {
        int n = 0;
        while (n < text.length() && n < whole.length() && text.charAt(n) == whole.charAt(n)) {
            n++;
        }
        return n;
    }

    /** All bytes that are of the right sort behind a right beginning, be they as told or not. */
    private static String sortDue(String beginning) {
        int length = beginning.length();
        if (length == 0) {
            return "x";
        }
        if (length <= 3) {
            return "0123456789";
        }
        if (length == 4) {
            return "rdp";
        }
        int a = beginning.charAt(1) - '0';
        int b = beginning.charAt(2) - '0';
        int c = beginning.charAt(3) - '0';
        if (beginning.endsWith(";")) {
            return "";
        }
        if (beginning.charAt(4) != 'p') {
            return length - 5 < a * b ? "0123456789" : ";";
        }
        int inWord = (length - 5) % (b + c + 1);
        int row = (length - 5) / (b + c + 1);
        return inWord < b + c ? "en" : row < a - 1 ? "en," : "en;";
    }

    private static Pile parse(String text) {
        int a = text.charAt(1) - '0';
        int b = text.charAt(2) - '0';
        int c = text.charAt(3) - '0';
        for (int[][] h : list(a, b, c)) {
            Pile p = new Pile(a, b, c, h);
            if (text.equals(rowText(p)) || text.equals(diagonalText(p)) || text.equals(pathText(p))) {
                return p;
            }
        }
        throw new IllegalStateException("no heap has the text " + text);
    }

    // ---- the face

    int feed(int letter) {
        if (letter < 0 || letter > 255) {
            return BAD;
        }
        if (tape.length() == 60) {
            return FULL;
        }
        tape += (char) letter;
        return tape.length();
    }

    int heap(int to) {
        if (to < 0 || to > 3) {
            return BAD;
        }
        String text = tape;
        tape = "";
        int fault = faultOf(text);
        if (fault >= 0) {
            faultNumber = fault % 10;
            return -1000100 - fault / 10;
        }
        return put(parse(text), to);
    }

    int fault() {
        return faultNumber;
    }

    int undo() {
        if (past.isEmpty()) {
            return STATE;
        }
        places = past.removeLast();
        return past.size();
    }

    int take(int a, int b, int c, int number, int to) {
        if (!isBox(a, b, c) || to < 0 || to > 3 || number < 0 || number >= list(a, b, c).size()) {
            return BAD;
        }
        return put(new Pile(a, b, c, list(a, b, c).get(number)), to);
    }

    int drawn(int a, int b, int c, int seed, int to) {
        if (!isBox(a, b, c) || seed < 1 || seed > 999999 || to < 0 || to > 3) {
            return BAD;
        }
        BigInteger mixed = BigInteger.valueOf(seed).multiply(BigInteger.valueOf(16807))
                .mod(BigInteger.valueOf(2147483647)).mod(BigInteger.valueOf(list(a, b, c).size()));
        put(new Pile(a, b, c, list(a, b, c).get(mixed.intValue())), to);
        return mixed.intValue();
    }

    private int put(Pile pile, int to) {
        past.addLast(places.clone());
        if (past.size() > 12) {
            past.removeFirst();
        }
        places[to] = pile;
        return pile == null ? 0 : volume(pile.h);
    }

    private Pile at(int place) {
        return place >= 0 && place <= 3 ? places[place] : null;
    }

    private static boolean hasCell(Pile p, int i, int j) {
        return p != null && i >= 0 && i < p.a && j >= 0 && j < p.b;
    }

    /** The heap with one height changed, or null if that is none. */
    private static Pile changed(Pile p, int i, int j, int by) {
        int[][] h = copy(p.h);
        h[i][j] += by;
        Pile changed = new Pile(p.a, p.b, p.c, h);
        return number(changed) < 0 ? null : changed;
    }

    int lay(int heap, int i, int j) {
        return change(heap, i, j, 1);
    }

    int off(int heap, int i, int j) {
        return change(heap, i, j, -1);
    }

    private int change(int heap, int i, int j, int by) {
        Pile p = at(heap);
        if (!hasCell(p, i, j)) {
            return BAD;
        }
        Pile changed = changed(p, i, j, by);
        if (changed == null) {
            return STATE;
        }
        put(changed, heap);
        return changed.h[i][j];
    }

    int turn(int heap, int how, int to) {
        if (at(heap) == null || how < 0 || how > 2 || to < 0 || to > 3) {
            return BAD;
        }
        return put(turned(at(heap), how), to);
    }

    private static boolean sameBox(Pile p, Pile q) {
        return p.a == q.a && p.b == q.b && p.c == q.c;
    }

    int join(int x, int y, int how, int to) {
        Pile p = at(x);
        Pile q = at(y);
        if (p == null || q == null || how < 0 || how > 1 || to < 0 || to > 3) {
            return BAD;
        }
        if (!sameBox(p, q)) {
            return STATE;
        }
        int[][] h = new int[p.a][p.b];
        for (int i = 0; i < p.a; i++) {
            for (int j = 0; j < p.b; j++) {
                boolean first = how == 0 ? p.h[i][j] > q.h[i][j] : p.h[i][j] < q.h[i][j];
                h[i][j] = first ? p.h[i][j] : q.h[i][j];
            }
        }
        return put(new Pile(p.a, p.b, p.c, h), to);
    }

    int drop(int heap) {
        Pile p = at(heap);
        if (p == null) {
            return BAD;
        }
        put(null, heap);
        return volume(p.h);
    }

    int height(int heap, int i, int j) {
        return hasCell(at(heap), i, j) ? at(heap).h[i][j] : BAD;
    }

    int whole(int heap, int what) {
        Pile p = at(heap);
        if (p == null || what < 0 || what > 9) {
            return BAD;
        }
        int[] answers = {p.a, p.b, p.c, volume(p.h), number(p), trace(p.h), changes(p, 1), changes(p, -1),
            symmetries(p), relatives(p).size()};
        return answers[what];
    }

    private static int changes(Pile p, int by) {
        int cells = 0;
        for (int i = 0; i < p.a; i++) {
            for (int j = 0; j < p.b; j++) {
                cells += changed(p, i, j, by) == null ? 0 : 1;
            }
        }
        return cells;
    }

    int path(int heap, int i, int k) {
        if (!hasCell(at(heap), i, 0) || k < 0) {
            return BAD;
        }
        String word = word(at(heap), i);
        return k < word.length() ? word.charAt(k) : NONE;
    }

    int slice(int heap, int d, int k) {
        Pile p = at(heap);
        if (p == null || d < 1 - p.a || d > p.b - 1 || k < 0) {
            return BAD;
        }
        int index = 0;
        for (int i = 0; i < p.a; i++) {
            if (i + d >= 0 && i + d < p.b) {
                if (index == k) {
                    return p.h[i][i + d];
                }
                index++;
            }
        }
        return NONE;
    }

    int face(int heap, int u, int v) {
        Pile p = at(heap);
        return p == null ? BAD : picture(p).getOrDefault(u + " " + v, 0);
    }

    private static Map<String, Integer> picture(Pile p) {
        int[][] g = new int[p.a + 2][p.b + 2];
        for (int i = -1; i <= p.a; i++) {
            for (int j = -1; j <= p.b; j++) {
                g[i + 1][j + 1] = hasCell(p, i, j) ? p.h[i][j] : i < 0 || j < 0 ? p.c : 0;
            }
        }
        Map<String, Integer> faces = new HashMap<>();
        for (int i = -1; i < p.a; i++) {
            for (int j = -1; j < p.b; j++) {
                if (i >= 0 && j >= 0) {
                    faces.put(2 * (j - i) + " " + (4 * p.h[i][j] - 2 * i - 2 * j - 2), 1);
                }
                for (int z = 1; z <= p.c; z++) {
                    String v = " " + (4 * z - 2 * i - 2 * j - 5);
                    if (j >= 0 && z > g[i + 2][j + 1] && z <= g[i + 1][j + 1]) {
                        faces.put(2 * (j - i) - 1 + v, 2);
                    }
                    if (i >= 0 && z > g[i + 1][j + 2] && z <= g[i + 1][j + 1]) {
                        faces.put(2 * (j - i) + 1 + v, 3);
                    }
                }
            }
        }
        return faces;
    }

    int kin(int heap, int k) {
        Pile p = at(heap);
        if (p == null || k < 0) {
            return BAD;
        }
        List<Pile> kin = relatives(p);
        return k < kin.size() ? number(kin.get(k)) : NONE;
    }

    int orders(int heap) {
        Pile p = at(heap);
        if (p == null) {
            return BAD;
        }
        return volume(p.h) > 8 ? FULL : ordersOf(new Pile(p.a, p.b, p.c, new int[p.a][p.b]), p);
    }

    private static int ordersOf(Pile from, Pile to) {
        if (from.key().equals(to.key())) {
            return 1;
        }
        int sum = 0;
        for (int i = 0; i < to.a; i++) {
            for (int j = 0; j < to.b; j++) {
                Pile next = from.h[i][j] < to.h[i][j] ? changed(from, i, j, 1) : null;
                sum += next == null ? 0 : ordersOf(next, to);
            }
        }
        return sum;
    }

    int many(int a, int b, int c) {
        return isBox(a, b, c) ? list(a, b, c).size() : BAD;
    }

    long minor(int a, int b, int c, int k) {
        if (!isBox(a, b, c) || k < 0 || k > a) {
            return BAD;
        }
        long[][] pascal = new long[10][10];
        for (int n = 0; n < 10; n++) {
            for (int m = 0; m <= n; m++) {
                pascal[n][m] = m == 0 || m == n ? 1 : pascal[n - 1][m - 1] + pascal[n - 1][m];
            }
        }
        BigInteger[][] matrix = new BigInteger[k][k];
        for (int i = 0; i < k; i++) {
            for (int j = 0; j < k; j++) {
                int m = c + j - i;
                matrix[i][j] = BigInteger.valueOf(m < 0 || m > b + c ? 0 : pascal[b + c][m]);
            }
        }
        return bareiss(matrix).longValueExact();
    }

    /** Bareiss eliminates, where CornerHeaps expands by rows. */
    private static BigInteger bareiss(BigInteger[][] m) {
        BigInteger before = BigInteger.ONE;
        int sign = 1;
        for (int p = 0; p < m.length; p++) {
            int pivot = p;
            while (pivot < m.length && m[pivot][p].signum() == 0) {
                pivot++;
            }
            if (pivot == m.length) {
                return BigInteger.ZERO;
            }
            if (pivot != p) {
                BigInteger[] swapped = m[p];
                m[p] = m[pivot];
                m[pivot] = swapped;
                sign = -sign;
            }
            for (int i = p + 1; i < m.length; i++) {
                for (int j = p + 1; j < m.length; j++) {
                    m[i][j] = m[i][j].multiply(m[p][p]).subtract(m[i][p].multiply(m[p][j])).divide(before);
                }
            }
            before = m[p][p];
        }
        return sign < 0 ? before.negate() : before;
    }

    int series(int a, int b, int c, int v) {
        if (!isBox(a, b, c) || v < 0) {
            return BAD;
        }
        int found = 0;
        for (int[][] h : list(a, b, c)) {
            found += volume(h) == v ? 1 : 0;
        }
        return found;
    }

    int weighed(int a, int b, int c, int kind, int q) {
        if (!isBox(a, b, c) || kind < 0 || kind > 4 || q < 1 || q > 9) {
            return BAD;
        }
        BigInteger sum = BigInteger.ZERO;
        for (int[][] h : list(a, b, c)) {
            sum = sum.add(BigInteger.valueOf(q).pow(exponent(h, c, kind)));
        }
        return sum.mod(BigInteger.valueOf(1000000007)).intValue();
    }

    private static int exponent(int[][] h, int c, int kind) {
        int above = 0;
        int differing = 0;
        int[] before = new int[h[0].length];
        Arrays.fill(before, c);
        for (int[] row : h) {
            above += (int) Arrays.stream(row).filter(height -> height > 0).count();
            differing += Arrays.equals(row, before) ? 0 : 1;
            before = row;
        }
        return new int[] {0, volume(h), trace(h), above, differing}[kind];
    }

    int symmetric(int a, int b, int c, int set) {
        if (!isBox(a, b, c) || set < 0 || set > 15) {
            return BAD;
        }
        if (list(a, b, c).size() > 1000) {
            return FULL;
        }
        int found = 0;
        for (int[][] h : list(a, b, c)) {
            found += (symmetries(new Pile(a, b, c, h)) & set) == set ? 1 : 0;
        }
        return found;
    }

    int between(int x, int y) {
        Pile p = at(x);
        Pile q = at(y);
        if (p == null || q == null) {
            return BAD;
        }
        if (!sameBox(p, q)) {
            return STATE;
        }
        int found = 0;
        for (int[][] h : list(p.a, p.b, p.c)) {
            boolean fits = true;
            for (int i = 0; i < p.a; i++) {
                for (int j = 0; j < p.b; j++) {
                    fits &= h[i][j] >= p.h[i][j] && h[i][j] <= q.h[i][j];
                }
            }
            found += fits ? 1 : 0;
        }
        return found;
    }

    int way(int x, int y, int m) {
        Pile p = at(x);
        Pile q = at(y);
        if (p == null || q == null || m < 0 || m > 9) {
            return BAD;
        }
        if (!sameBox(p, q)) {
            return STATE;
        }
        if (list(p.a, p.b, p.c).size() > 200) {
            return FULL;
        }
        int[] steps = new int[list(p.a, p.b, p.c).size()];
        Arrays.fill(steps, NONE);
        steps[number(p)] = 0;
        ArrayDeque<Pile> open = new ArrayDeque<>();
        open.add(p);
        while (!open.isEmpty()) {
            Pile at = open.remove();
            boolean passable = at == p || m == 0 || volume(at.h) % m != 0;
            for (int cell = 0; passable && cell < 2 * p.a * p.b; cell++) {
                Pile next = changed(at, cell / 2 / p.b, cell / 2 % p.b, cell % 2 == 0 ? 1 : -1);
                if (next != null && steps[number(next)] == NONE) {
                    steps[number(next)] = steps[number(at)] + 1;
                    open.add(next);
                }
            }
        }
        return steps[number(q)];
    }

    int image(int k) {
        if (k < 0 || k > 1) {
            return BAD;
        }
        images[k] = places.clone();
        return count(0);
    }

    int restore(int k) {
        if (k < 0 || k > 1) {
            return BAD;
        }
        if (images[k] == null) {
            return STATE;
        }
        places = images[k].clone();
        past.clear();
        return count(0);
    }

    int count(int what) {
        int heaps = 0;
        int volumes = 0;
        for (Pile p : places) {
            heaps += p == null ? 0 : 1;
            volumes += p == null ? 0 : volume(p.h);
        }
        return what < 0 || what > 3 ? BAD : new int[] {heaps, volumes, past.size(), tape.length()}[what];
    }
}
