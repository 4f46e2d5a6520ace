import java.util.HashMap;
import java.util.HashSet;
import java.util.List;
import java.util.Map;
import java.util.Set;

/** The boundary cases of what is said of one heap (promises 10 and 13 to 19), sentence by sentence. */
public final class HeapBoundsTest {
    private static final int NONE = Bench.NONE;
    private static final int BAD = Bench.BAD;
    private static final int FULL = Bench.FULL;
    private static final int MIN = Bench.MIN;
    private static final int MAX = Bench.MAX;

    public static void main(String[] args) {
        heightsFromZeroToC();
        heightsThatDoNotRise();
        transposed();
        rotated();
        complemented();
        symmetries();
        equalBoxes();
        kinIncluded();
        kinInOrder();
        walls();
        levelsOfSides();
        heightAnswers();
        heightBad();
        wholeOfEmptyAndFull();
        wholeBad();
        pathLetters();
        pathNone();
        pathBad();
        sliceHeights();
        sliceBad();
        faceAnyInt();
        faceAnswers();
        kinAnswers();
        kinBad();
        ordersOfFew();
        ordersFull();
        ordersBad();
        Checks.finish();
    }

    /** An object with the empty heap of a box on place 0 and the full one on place 1. */
    private static CornerHeaps emptyAndFull(int a, int b, int c) {
        return Bench.with(Bench.flat(a, b, c, 0), Bench.flat(a, b, c, c));
    }

    private static void heightsFromZeroToC() {
        Checks.says("A heap in it has a height h(i, j) from 0 to C");
        Bench.everyBox((a, b, c) -> {
            CornerHeaps x = emptyAndFull(a, b, c);
            Checks.due("lay on the full heap of " + Bench.box(a, b, c), x.lay(1, 0, 0), Bench.STATE);
            Checks.due("off from the empty heap of " + Bench.box(a, b, c), x.off(0, 0, 0), Bench.STATE);
            Checks.due("lay on the empty heap of " + Bench.box(a, b, c), x.lay(0, 0, 0), 1);
            Checks.due("off from the full heap of " + Bench.box(a, b, c), x.off(1, a - 1, b - 1), c - 1);
        });
    }

    private static void heightsThatDoNotRise() {
        Checks.says("such that h(i, j) is at most h(i - 1, j) if i is above 0,"
                + " and at most h(i, j - 1) if j is above 0.");
        for (int n = 0; n < 81; n++) {
            int[] h = {n / 27, n / 9 % 3, n / 3 % 3, n % 3};
            boolean heap = h[1] <= h[0] && h[2] <= h[0] && h[3] <= h[1] && h[3] <= h[2];
            CornerHeaps x = new CornerHeaps();
            String text = "x222r" + h[0] + h[1] + h[2] + h[3] + ";";
            Checks.holds("heap of " + text, Bench.read(x, text, 0) >= 0 == heap);
            Checks.same("the heap of " + text, Bench.shown(x, 0), heap ? text : "");
        }
        Bench.right("x414r4444;", "x414r4444;");
        Bench.right("x144r4444;", "x144r4444;");
    }

    private static void transposed() {
        Checks.says("0 (transpose): h'(j, i) = h(i, j), in the box with B rows, A columns and the height C.");
        turned("x114r3;", 0, "x114r3;");
        turned("x142r2110;", 0, "x412r2110;");
        turned("x412r2110;", 0, "x142r2110;");
        turned("x234r432210;", 0, "x324r423120;");
        Bench.everyBox((a, b, c) -> {
            turned(Bench.flat(a, b, c, 0), 0, Bench.flat(b, a, c, 0));
            turned(Bench.flat(a, b, c, c), 0, Bench.flat(b, a, c, c));
        });
    }

    private static void rotated() {
        Checks.says("h'(j, z) is the number of all i with h(i, j) greater than z");
        turned("x114r0;", 1, "x141r0000;");
        turned("x114r3;", 1, "x141r1110;");
        turned("x114r4;", 1, "x141r1111;");
        turned("x141r1110;", 1, "x411r1110;");
        turned("x411r1110;", 1, "x114r3;");
        turned("x213r31;", 1, "x132r211;");
        Bench.everyBox((a, b, c) -> {
            turned(Bench.flat(a, b, c, 0), 1, Bench.flat(b, c, a, 0));
            turned(Bench.flat(a, b, c, c), 1, Bench.flat(b, c, a, a));
        });
    }

    private static void complemented() {
        Checks.says("2 (complement): h'(i, j) = C - h(A - 1 - i, B - 1 - j), in the same box.");
        turned("x124r40;", 2, "x124r40;");
        turned("x124r41;", 2, "x124r30;");
        turned("x214r41;", 2, "x214r30;");
        turned("x232r221100;", 2, "x232r221100;");
        turned("x232r210000;", 2, "x232r222210;");
        Bench.everyBox((a, b, c) -> {
            turned(Bench.flat(a, b, c, 0), 2, Bench.flat(a, b, c, c));
            turned(Bench.flat(a, b, c, c), 2, Bench.flat(a, b, c, 0));
        });
    }

    private static void turned(String from, int how, String to) {
        CornerHeaps x = Bench.with(from, to);
        Checks.due("turn " + how + " of " + from, x.turn(0, how, 2), x.whole(1, 3));
        Checks.same("turn " + how + " of " + from, Bench.shown(x, 2), to);
    }

    private static void symmetries() {
        Checks.says("bit 0 is 1 if the heap equals its transpose; bit 1 if it equals its rotation;"
                + " bit 2 if it equals its complement; bit 3 if it equals the complement of its transpose.");
        String[] heaps = {"x111r0;", "x111r1;", "x112r1;", "x121r10;", "x211r10;", "x221r1100;", "x221r1010;",
            "x221r1110;", "x222r2110;", "x222r1111;", "x222r2020;", "x222r2100;", "x222r1000;", "x222r2221;",
            "x332r221110110;", "x333r321210100;", "x333r330000000;", "x234r444000;", "x443r3333333300000000;"};
        int[] sets = {3, 3, 13, 4, 4, 4, 4, 1, 15, 13, 4, 0, 3, 3, 8, 3, 0, 4, 4};
        for (int n = 0; n < heaps.length; n++) {
            Checks.due("symmetries of " + heaps[n], Bench.with(heaps[n]).whole(0, 8), sets[n]);
        }
    }

    private static void equalBoxes() {
        Checks.says("Heaps are equal only if their boxes have the same A, B and C.");
        Bench.everyBox((a, b, c) -> {
            CornerHeaps x = emptyAndFull(a, b, c);
            int set = (a == b ? 1 : 0) + (a == b && b == c ? 2 : 0);
            Checks.due("symmetries of the empty heap of " + Bench.box(a, b, c), x.whole(0, 8), set);
            Checks.due("symmetries of the full heap of " + Bench.box(a, b, c), x.whole(1, 8), set);
            // Each other box with these sides has an empty and a full heap of its own.
            int boxes = a == b && b == c ? 1 : a == b || b == c || a == c ? 3 : 6;
            Checks.due("kin of the empty heap of " + Bench.box(a, b, c), x.whole(0, 9), 2 * boxes);
        });
    }

    private static void kinIncluded() {
        Checks.says("The kin of a heap are all heaps that come from it by any sequence of turns, itself included.");
        Checks.due("a heap that is its only kin", Bench.with("x222r2110;").whole(0, 9), 1);
        kin("x222r2110;", 10);
        kin("x111r0;", 0, 1);
        kin("x111r1;", 0, 1);
        kin("x112r1;", 1, 1, 1);
        kin("x121r10;", 1, 1, 1);
        kin("x112r0;", 0, 2, 0, 2, 0, 2);
        kin("x222r1111;", 5, 8, 14);
        kin("x222r2010;", 4, 7, 9, 11, 12, 15);
    }

    private static void kinInOrder() {
        Checks.says("They are ordered by A, then by B, then by C of their boxes, and in one box by their numbers.");
        String[] all = {"x123r31;", "x123r20;", "x132r211;", "x132r110;", "x213r31;", "x231r111100;", "x231r110000;",
            "x312r211;", "x321r111010;"};
        for (String heap : all) {
            kin(heap, 3, 7, 2, 6, 3, 7, 3, 7, 2, 6, 2, 6);
        }
        // What one heap has is not left over for the next one.
        CornerHeaps x = Bench.with("x123r31;", "x111r1;", "x222r2110;", "x112r1;");
        int[] sizes = {12, 2, 1, 3};
        for (int times = 0; times < 2; times++) {
            for (int place = 0; place <= 3; place++) {
                Checks.due("how many kin place " + place + " has", x.whole(place, 9), sizes[place]);
                Checks.due("kin behind the last of place " + place, x.kin(place, sizes[place]), NONE);
                Checks.holds("the last kin of place " + place, x.kin(place, sizes[place] - 1) >= 0);
            }
        }
    }

    private static void kin(String heap, int... numbers) {
        CornerHeaps x = Bench.with(heap);
        for (int k = 0; k < numbers.length; k++) {
            Checks.due("kin " + k + " of " + heap, x.kin(0, k), numbers[k]);
        }
        Checks.due("kin behind the last of " + heap, x.kin(0, numbers.length), NONE);
        Checks.due("how many kin " + heap + " has", x.whole(0, 9), numbers.length);
    }

    private static void walls() {
        Checks.says("Here h(-1, j) and h(i, -1) are C, and h(A, j) and h(i, B) are 0.");
        Bench.everyBox((a, b, c) -> {
            CornerHeaps x = emptyAndFull(a, b, c);
            picture("the empty heap of " + Bench.box(a, b, c), x, 0, facesOfEmpty(a, b, c));
            picture("the full heap of " + Bench.box(a, b, c), x, 1, facesOfFull(a, b, c));
        });
    }

    /** The floor, and the two walls behind it. */
    private static Map<List<Integer>, Integer> facesOfEmpty(int a, int b, int c) {
        Map<List<Integer>, Integer> faces = new HashMap<>();
        for (int i = 0; i < a; i++) {
            for (int j = 0; j < b; j++) {
                faces.put(List.of(2 * j - 2 * i, -2 * i - 2 * j - 2), 1);
            }
        }
        for (int z = 1; z <= c; z++) {
            for (int j = 0; j < b; j++) {
                faces.put(List.of(2 * j + 1, 4 * z - 2 * j - 3), 2);
            }
            for (int i = 0; i < a; i++) {
                faces.put(List.of(-2 * i - 1, 4 * z - 2 * i - 3), 3);
            }
        }
        return faces;
    }

    /** The top of the box, and its two sides in front. */
    private static Map<List<Integer>, Integer> facesOfFull(int a, int b, int c) {
        Map<List<Integer>, Integer> faces = new HashMap<>();
        for (int i = 0; i < a; i++) {
            for (int j = 0; j < b; j++) {
                faces.put(List.of(2 * j - 2 * i, 4 * c - 2 * i - 2 * j - 2), 1);
            }
        }
        for (int z = 1; z <= c; z++) {
            for (int j = 0; j < b; j++) {
                faces.put(List.of(2 * j - 2 * a + 1, 4 * z - 2 * a - 2 * j - 3), 2);
            }
            for (int i = 0; i < a; i++) {
                faces.put(List.of(2 * b - 2 * i - 1, 4 * z - 2 * i - 2 * b - 3), 3);
            }
        }
        return faces;
    }

    private static void picture(String heap, CornerHeaps x, int place, Map<List<Integer>, Integer> faces) {
        for (int u = -10; u <= 10; u++) {
            for (int v = -24; v <= 24; v++) {
                int want = faces.getOrDefault(List.of(u, v), 0);
                Checks.due("face(" + u + ", " + v + ") of " + heap, x.face(place, u, v), want);
            }
        }
    }

    private static void levelsOfSides() {
        Checks.says("each z greater than h(i + 1, j) and at most h(i, j)");
        for (int c = 1; c <= 4; c++) {
            for (int height = 0; height <= c; height++) {
                Map<List<Integer>, Integer> faces = new HashMap<>();
                faces.put(List.of(0, 4 * height - 2), 1);
                for (int z = 1; z <= c; z++) {
                    boolean wall = z > height;
                    faces.put(List.of(wall ? 1 : -1, wall ? 4 * z - 3 : 4 * z - 5), 2);
                    faces.put(List.of(wall ? -1 : 1, wall ? 4 * z - 3 : 4 * z - 5), 3);
                }
                String heap = "x11" + c + "r" + height + ";";
                picture(heap, Bench.with(heap), 0, faces);
            }
        }
    }

    private static void heightAnswers() {
        Checks.says("Returns h(i, j); BAD if there is no heap there, or no such row or column.");
        Bench.everyBox((a, b, c) -> {
            CornerHeaps x = emptyAndFull(a, b, c);
            for (int i = -2; i <= 5; i++) {
                for (int j = -2; j <= 5; j++) {
                    boolean cell = i >= 0 && i < a && j >= 0 && j < b;
                    String call = "height(" + i + ", " + j + ") in " + Bench.box(a, b, c);
                    Checks.due(call, x.height(0, i, j), cell ? 0 : BAD);
                    Checks.due(call, x.height(1, i, j), cell ? c : BAD);
                }
            }
        });
    }

    private static void heightBad() {
        Checks.says("BAD if there is no heap there, or no such row or column.");
        for (int far : new int[] {MIN, MIN + 1, -16, 16, 1 << 26, 1 << 28, 1 << 30, MAX - 1, MAX}) {
            Bench.refused("row " + far, BAD, x -> x.height(0, far, 0));
            Bench.refused("column " + far, BAD, x -> x.height(0, 0, far));
        }
        Bench.refused("an empty place", BAD, x -> x.height(3, 0, 0));
        for (int place : Bench.NO_PLACES) {
            Bench.refused("place " + place, BAD, x -> x.height(place, 0, 0));
        }
    }

    private static void wholeOfEmptyAndFull() {
        Checks.says("4: its number; 5: its trace; 6: at how many (i, j) a cube can be added;"
                + " 7: at how many one can be removed");
        Bench.everyBox((a, b, c) -> {
            CornerHeaps x = emptyAndFull(a, b, c);
            int[] empty = {a, b, c, 0, 0, 0, 1, 0};
            int[] full = {a, b, c, a * b * c, x.many(a, b, c) - 1, Math.min(a, b) * c, 0, 1};
            for (int what = 0; what <= 7; what++) {
                Checks.due("whole(0, " + what + ") in " + Bench.box(a, b, c), x.whole(0, what), empty[what]);
                Checks.due("whole(1, " + what + ") in " + Bench.box(a, b, c), x.whole(1, what), full[what]);
            }
        });
        CornerHeaps y = Bench.with("x443r3210210010000000;", "x443r3330333033300000;");
        Checks.due("cells to add on stairs", y.whole(0, 6), 9);
        Checks.due("cells to remove on stairs", y.whole(0, 7), 6);
        Checks.due("cells to add at the ends", y.whole(1, 6), 2);
        Checks.due("cells to remove at the corner", y.whole(1, 7), 1);
    }

    private static void wholeBad() {
        Checks.says("Returns the property; BAD if there is no heap there, or what is not 0 to 9.");
        for (int what : new int[] {MIN, -1, 10, 11, MAX}) {
            Bench.refused("what " + what, BAD, x -> x.whole(0, what));
        }
        for (int what = 0; what <= 9; what++) {
            int property = what;
            Bench.refused("property " + what + " of an empty place", BAD, x -> x.whole(3, property));
            for (int place : Bench.NO_PLACES) {
                Bench.refused("property " + what + " of place " + place, BAD, x -> x.whole(place, property));
            }
        }
    }

    private static void pathLetters() {
        Checks.says("Returns a letter of the word of a row, as it would be written on the tape.");
        Bench.everyBox((a, b, c) -> {
            CornerHeaps x = emptyAndFull(a, b, c);
            for (int i = 0; i < a; i++) {
                for (int k = 0; k < b + c; k++) {
                    String call = "letter " + k + " of row " + i + " in " + Bench.box(a, b, c);
                    Checks.due(call, x.path(0, i, k), k < c ? 'n' : 'e');
                    Checks.due(call, x.path(1, i, k), k < b ? 'e' : 'n');
                }
            }
        });
    }

    private static void pathNone() {
        Checks.says("NONE if the word has no such letter");
        Bench.everyBox((a, b, c) -> {
            CornerHeaps x = emptyAndFull(a, b, c);
            for (int k : new int[] {b + c, b + c + 1, 9, 1 << 30, MAX}) {
                Checks.due("letter " + k + " in " + Bench.box(a, b, c), x.path(0, 0, k), NONE);
                Checks.due("letter " + k + " in " + Bench.box(a, b, c), x.path(1, a - 1, k), NONE);
            }
        });
    }

    private static void pathBad() {
        Checks.says("BAD if there is no heap there, there is no such row, or k is negative.");
        Bench.everyBox((a, b, c) -> {
            CornerHeaps x = emptyAndFull(a, b, c);
            Checks.due("row A of " + Bench.box(a, b, c), x.path(0, a, 0), BAD);
            Checks.due("row A of " + Bench.box(a, b, c), x.path(1, a, b + c), BAD);
        });
        for (int i : new int[] {MIN, -1, 2, 3, 4, 1 << 28, MAX}) {
            Bench.refused("row " + i, BAD, x -> x.path(0, i, 0));
            Bench.refused("row " + i + " and no letter", BAD, x -> x.path(0, i, 99));
        }
        for (int k : new int[] {MIN, -2, -1}) {
            Bench.refused("k " + k, BAD, x -> x.path(0, 0, k));
        }
        Bench.refused("an empty place", BAD, x -> x.path(3, 0, 0));
        for (int place : Bench.NO_PLACES) {
            Bench.refused("place " + place, BAD, x -> x.path(place, 0, 99));
        }
    }

    private static void sliceHeights() {
        Checks.says("Returns the height; NONE if the diagonal has no such height;"
                + " BAD if there is no heap there, there is no such diagonal, or k is negative.");
        Bench.everyBox((a, b, c) -> {
            CornerHeaps x = emptyAndFull(a, b, c);
            for (int d = -5; d <= 5; d++) {
                int length = Math.min(a, b - d) - Math.max(0, -d);
                for (int k = -1; k <= 5; k++) {
                    int want = d < 1 - a || d > b - 1 || k < 0 ? BAD : k < length ? c : NONE;
                    Checks.due("slice(" + d + ", " + k + ") in " + Bench.box(a, b, c), x.slice(1, d, k), want);
                }
                int wantFar = d < 1 - a || d > b - 1 ? BAD : NONE;
                Checks.due("slice(" + d + ", MAX) in " + Bench.box(a, b, c), x.slice(0, d, MAX), wantFar);
                Checks.due("slice(" + d + ", MAX - 3) in " + Bench.box(a, b, c), x.slice(0, d, MAX - 3), wantFar);
            }
        });
    }

    private static void sliceBad() {
        Checks.says("BAD if there is no heap there, there is no such diagonal, or k is negative.");
        for (int d : new int[] {MIN, MIN + 1, -2, 2, MAX - 1, MAX}) {
            Bench.refused("diagonal " + d, BAD, x -> x.slice(0, d, 0));
            Bench.refused("diagonal " + d + " and no height", BAD, x -> x.slice(0, d, 99));
        }
        for (int k : new int[] {MIN, -2, -1}) {
            Bench.refused("k " + k, BAD, x -> x.slice(0, 1, k));
            Bench.refused("k " + k, BAD, x -> x.slice(0, -1, k));
        }
        Bench.refused("an empty place", BAD, x -> x.slice(3, 0, 0));
        for (int place : Bench.NO_PLACES) {
            Bench.refused("place " + place, BAD, x -> x.slice(place, 0, 99));
        }
    }

    private static void faceAnyInt() {
        Checks.says("`u`: u, any int");
        CornerHeaps x = Bench.with("x443r3210210010000000;");
        int[] far = {MIN, MIN + 1, MIN + 2, -1000, 1000, 1 << 30, -(1 << 30), MAX - 1, MAX};
        for (int u : far) {
            for (int v : far) {
                Checks.due("face(" + u + ", " + v + ")", x.face(0, u, v), 0);
            }
            for (int near = -12; near <= 12; near++) {
                Checks.due("face(" + u + ", " + near + ")", x.face(0, u, near), 0);
                Checks.due("face(" + near + ", " + u + ")", x.face(0, near, u), 0);
                Checks.due("face with u wrapped around", x.face(0, near + MIN, near), 0);
                Checks.due("face with v wrapped around", x.face(0, near, near + MIN), 0);
            }
        }
    }

    private static void faceAnswers() {
        Checks.says("Returns 1 for a top, 2 for a left face, 3 for a right face; 0 if there is none;"
                + " BAD if there is no heap there.");
        Bench.everyBox((a, b, c) -> {
            CornerHeaps x = new CornerHeaps();
            x.drawn(a, b, c, 4711, 0);
            int[] found = new int[4];
            for (int u = -10; u <= 10; u++) {
                for (int v = -24; v <= 24; v++) {
                    found[x.face(0, u, v)]++;
                }
            }
            Checks.due("tops in " + Bench.box(a, b, c), found[1], a * b);
            Checks.due("left faces in " + Bench.box(a, b, c), found[2], b * c);
            Checks.due("right faces in " + Bench.box(a, b, c), found[3], a * c);
        });
        Bench.refused("an empty place", BAD, x -> x.face(3, 0, 0));
        for (int place : Bench.NO_PLACES) {
            Bench.refused("place " + place, BAD, x -> x.face(place, 0, 2));
        }
    }

    private static void kinAnswers() {
        Checks.says("Returns its number in its own box; NONE if there is no such kin");
        Bench.everyBox((a, b, c) -> {
            CornerHeaps x = emptyAndFull(a, b, c);
            int kin = x.whole(0, 9);
            Set<Integer> numbers = new HashSet<>();
            for (int k = 0; k < kin; k++) {
                numbers.add(x.kin(0, k));
                Checks.due("kin " + k + " of the full heap of " + Bench.box(a, b, c), x.kin(1, k), x.kin(0, k));
            }
            Checks.holds("kin of " + Bench.box(a, b, c), numbers.equals(Set.of(0, x.many(a, b, c) - 1)));
            for (int k : new int[] {kin, kin + 1, 12, 13, 1 << 30, MAX}) {
                Checks.due("kin " + k + " in " + Bench.box(a, b, c), x.kin(0, k), NONE);
            }
        });
    }

    private static void kinBad() {
        Checks.says("BAD if there is no heap there, or k is negative.");
        for (int k : new int[] {MIN, -2, -1}) {
            Bench.refused("k " + k, BAD, x -> x.kin(0, k));
        }
        Bench.refused("an empty place", BAD, x -> x.kin(3, 0));
        for (int place : Bench.NO_PLACES) {
            Bench.refused("place " + place, BAD, x -> x.kin(place, 0));
            Bench.refused("place " + place + " and no kin", BAD, x -> x.kin(place, 99));
        }
    }

    private static void ordersOfFew() {
        Checks.says("Returns the number of orders (1 for the empty heap)");
        Bench.everyBox((a, b, c) -> {
            CornerHeaps x = emptyAndFull(a, b, c);
            Checks.due("orders of the empty heap of " + Bench.box(a, b, c), x.orders(0), 1);
            x.lay(0, 0, 0);
            Checks.due("orders of one cube in " + Bench.box(a, b, c), x.orders(0), 1);
        });
        CornerHeaps y = Bench.with("x222r2222;", "x144r4400;", "x144r4310;", "x442r2222000000000000;");
        Checks.due("orders of the cube", y.orders(0), 48);
        Checks.due("orders of two rows of four", y.orders(1), 14);
        Checks.due("orders of rows of four, three and one", y.orders(2), 70);
        Checks.due("orders of four rows of two", y.orders(3), 14);
    }

    private static void ordersFull() {
        Checks.says("FULL if its volume is above 8.");
        Bench.everyBox((a, b, c) -> {
            CornerHeaps x = new CornerHeaps();
            x.take(a, b, c, 0, 0);
            for (int volume = 1; volume <= a * b * c; volume++) {
                layAnywhere(x, a, b);
                String call = "orders of volume " + x.whole(0, 3) + " in " + Bench.box(a, b, c);
                Checks.due("volume", x.whole(0, 3), volume);
                Checks.holds(call, volume > 8 ? x.orders(0) == FULL : x.orders(0) > 0);
            }
        });
        CornerHeaps y = Bench.busy();
        y.take(3, 4, 4, 24695, 0);
        CornerHeaps twin = Bench.busy();
        twin.take(3, 4, 4, 24695, 0);
        Checks.due("orders of the fullest heap", y.orders(0), FULL);
        Checks.same("what remains", Bench.remains(y), Bench.remains(twin));
    }

    private static void layAnywhere(CornerHeaps x, int a, int b) {
        for (int cell = a * b - 1; cell >= 0; cell--) {
            if (x.lay(0, cell / b, cell % b) >= 0) {
                return;
            }
        }
    }

    private static void ordersBad() {
        Checks.says("BAD if there is no heap there; FULL if its volume is above 8.");
        Bench.refused("an empty place", BAD, x -> x.orders(3));
        for (int place : Bench.NO_PLACES) {
            Bench.refused("place " + place, BAD, x -> x.orders(place));
        }
    }
}
