import java.math.BigInteger;
import java.util.Arrays;
import java.util.List;

/** The boundary cases of what is counted over heaps (promises 20 to 26), sentence by sentence. */
public final class BoxBoundsTest {
    private static final int NONE = Bench.NONE;
    private static final int BAD = Bench.BAD;
    private static final int STATE = Bench.STATE;
    private static final int FULL = Bench.FULL;
    private static final int MIN = Bench.MIN;
    private static final int MAX = Bench.MAX;
    private static final List<String> OF_222 = Arrays.asList("0000", "1000", "1010", "1100", "1110", "1111", "2000",
            "2010", "2020", "2100", "2110", "2111", "2120", "2121", "2200", "2210", "2211", "2220", "2221", "2222");

    public static void main(String[] args) {
        sidesOfBoxes();
        boxesOutOfRange();
        manyOfEveryBox();
        manyBad();
        minorOfEverySize();
        minorElements();
        minorBad();
        seriesAtTheEnds();
        seriesBad();
        weightsByKind();
        weightsWithFullRowBefore();
        weightsByOneAndNine();
        weightsModulo();
        weighedBad();
        symmetricWithOthers();
        symmetricFull();
        symmetricBad();
        betweenHeaps();
        betweenBad();
        betweenState();
        wayToItself();
        wayByDivisible();
        wayEnds();
        wayZeroIsDivisible();
        wayNone();
        wayBad();
        wayState();
        wayFull();
        Checks.finish();
    }

    /** MacMahon: the product of (i + j + c - 1) / (i + j - 1) over the cells of the box, from 1. */
    private static long heaps(int a, int b, int c) {
        return weightsByVolume(a, b, c, 1).longValueExact();
    }

    /** The same with 1 - q ^ n for each n; for q = 1 it is the quotient of the n themselves. */
    private static BigInteger weightsByVolume(int a, int b, int c, int q) {
        BigInteger above = BigInteger.ONE;
        BigInteger below = BigInteger.ONE;
        for (int i = 1; i <= a; i++) {
            for (int j = 1; j <= b; j++) {
                above = above.multiply(factor(q, i + j + c - 1));
                below = below.multiply(factor(q, i + j - 1));
            }
        }
        return above.divide(below);
    }

    private static BigInteger factor(int q, int n) {
        return q == 1 ? BigInteger.valueOf(n) : BigInteger.valueOf(q).pow(n).subtract(BigInteger.ONE);
    }

    private static void sidesOfBoxes() {
        Checks.says("A box has A rows, B columns and the height C, each from 1 to 4, with A * B * C at most 48.");
        for (int a = -2; a <= 6; a++) {
            for (int b = -2; b <= 6; b++) {
                for (int c = -2; c <= 6; c++) {
                    boolean sides = Math.min(a, Math.min(b, c)) >= 1 && Math.max(a, Math.max(b, c)) <= 4;
                    boolean box = sides && a * b * c <= 48;
                    CornerHeaps x = new CornerHeaps();
                    Checks.due("take from " + Bench.box(a, b, c), x.take(a, b, c, 0, 0), box ? 0 : BAD);
                    Checks.due("many(" + Bench.box(a, b, c) + ")", x.many(a, b, c), box ? heaps(a, b, c) : BAD);
                }
            }
        }
        Checks.due("the largest boxes", new CornerHeaps().many(3, 4, 4), 24696);
        Checks.due("the largest boxes", new CornerHeaps().many(4, 3, 4), 24696);
        Checks.due("the largest boxes", new CornerHeaps().many(4, 4, 3), 24696);
        Checks.due("one that is too large", new CornerHeaps().many(4, 4, 4), BAD);
    }

    private static void boxesOutOfRange() {
        Checks.says("Where a box is an argument, it is out of range if one of a, b and c is not 1 to 4,"
                + " or a * b * c is above 48.");
        for (int[] box : Bench.NO_BOXES) {
            int a = box[0];
            int b = box[1];
            int c = box[2];
            String of = " of " + Arrays.toString(box);
            Bench.refused("take" + of, BAD, x -> x.take(a, b, c, 0, 0));
            Bench.refused("drawn" + of, BAD, x -> x.drawn(a, b, c, 1, 0));
            Bench.refused("many" + of, BAD, x -> x.many(a, b, c));
            Bench.refused("minor" + of, BAD, x -> x.minor(a, b, c, 0));
            Bench.refused("minor" + of, BAD, x -> x.minor(a, b, c, 1));
            Bench.refused("series" + of, BAD, x -> x.series(a, b, c, 0));
            Bench.refused("series" + of, BAD, x -> x.series(a, b, c, MAX));
            Bench.refused("weighed" + of, BAD, x -> x.weighed(a, b, c, 0, 1));
            Bench.refused("symmetric" + of, BAD, x -> x.symmetric(a, b, c, 0));
        }
    }

    private static void manyOfEveryBox() {
        Checks.says("Returns the number of heaps; BAD if the box is out of range.");
        // One object for all boxes, so that none disturbs another one.
        CornerHeaps x = new CornerHeaps();
        for (int times = 0; times < 2; times++) {
            Bench.everyBox((a, b, c) ->
                    Checks.due("many(" + Bench.box(a, b, c) + ")", x.many(a, b, c), heaps(a, b, c)));
        }
        Checks.due("the smallest box", x.many(1, 1, 1), 2);
    }

    private static void manyBad() {
        Checks.says("BAD if the box is out of range.");
        for (int far : new int[] {MIN, -1, 0, 5, MAX}) {
            Bench.refused("a " + far, BAD, x -> x.many(far, 1, 1));
            Bench.refused("b " + far, BAD, x -> x.many(1, far, 1));
            Bench.refused("c " + far, BAD, x -> x.many(1, 1, far));
        }
    }

    private static void minorOfEverySize() {
        Checks.says("Returns the determinant (1 for k = 0)");
        Bench.everyBox((a, b, c) -> {
            CornerHeaps x = new CornerHeaps();
            for (int k = 0; k <= a; k++) {
                Checks.due("minor(" + Bench.box(a, b, c) + ", " + k + ")", x.minor(a, b, c, k),
                        k == 0 ? 1 : heaps(k, b, c));
            }
        });
    }

    private static void minorElements() {
        Checks.says("(0 if c + j - i is negative or above b + c)");
        // The matrices of b = 1 and c = 1 have only 0 beside three diagonals, which makes k + 1 of them.
        for (int k = 0; k <= 4; k++) {
            Checks.due("minor(4, 1, 1, " + k + ")", new CornerHeaps().minor(4, 1, 1, k), k + 1);
        }
        Checks.due("minor(4, 1, 4, 4)", new CornerHeaps().minor(4, 1, 4, 4), 70);
        Checks.due("minor(4, 4, 1, 4)", new CornerHeaps().minor(4, 4, 1, 4), 70);
        Checks.due("minor(4, 2, 1, 4)", new CornerHeaps().minor(4, 2, 1, 4), 15);
        Checks.due("minor(4, 1, 2, 3)", new CornerHeaps().minor(4, 1, 2, 3), 10);
    }

    private static void minorBad() {
        Checks.says("BAD if the box or k is out of range.");
        Bench.everyBox((a, b, c) -> {
            CornerHeaps x = new CornerHeaps();
            Checks.due("k a + 1 in " + Bench.box(a, b, c), x.minor(a, b, c, a + 1), BAD);
            Checks.due("k -1 in " + Bench.box(a, b, c), x.minor(a, b, c, -1), BAD);
        });
        for (int k : new int[] {MIN, -2, -1, 3, 4, 5, 1 << 30, MAX}) {
            Bench.refused("k " + k, BAD, x -> x.minor(2, 4, 4, k));
        }
    }

    private static void seriesAtTheEnds() {
        Checks.says("`v`: the volume, 0 or more");
        Bench.everyBox((a, b, c) -> {
            CornerHeaps x = new CornerHeaps();
            int all = a * b * c;
            String box = " in " + Bench.box(a, b, c);
            Checks.due("volume 0" + box, x.series(a, b, c, 0), 1);
            Checks.due("volume 1" + box, x.series(a, b, c, 1), 1);
            Checks.due("the whole volume" + box, x.series(a, b, c, all), 1);
            Checks.due("one less" + box, x.series(a, b, c, all - 1), 1);
            for (int v : new int[] {all + 1, all + 2, 49, 50, 64, 1 << 30, MAX}) {
                Checks.due("volume " + v + box, x.series(a, b, c, v), 0);
            }
            long sum = 0;
            for (int v = 0; v <= all; v++) {
                sum += x.series(a, b, c, v);
                Checks.due("volume " + v + box, x.series(a, b, c, v), x.series(a, b, c, all - v));
            }
            Checks.due("all volumes" + box, sum, heaps(a, b, c));
        });
    }

    private static void seriesBad() {
        Checks.says("BAD if the box is out of range, or v is negative.");
        for (int v : new int[] {MIN, MIN + 1, -48, -2, -1}) {
            Bench.refused("v " + v, BAD, x -> x.series(2, 2, 2, v));
            Bench.refused("v " + v + " and no box", BAD, x -> x.series(4, 4, 4, v));
        }
    }

    private static void weightsByKind() {
        Checks.says("0: 1; 1: q to the power of its volume; 2: q to the power of its trace,"
                + " which is h(0, 0) + h(1, 1) + ...; 3: q to the power of the number of heights above 0;");
        for (int c = 1; c <= 4; c++) {
            for (int q = 1; q <= 9; q++) {
                CornerHeaps x = new CornerHeaps();
                int powers = 1;
                for (int n = 0; n < c; n++) {
                    powers = powers * q + 1;
                }
                Checks.due("kind 0", x.weighed(1, 1, c, 0, q), c + 1);
                Checks.due("kind 1", x.weighed(1, 1, c, 1, q), powers);
                Checks.due("kind 2", x.weighed(1, 1, c, 2, q), powers);
                Checks.due("kind 3", x.weighed(1, 1, c, 3, q), 1 + c * q);
                Checks.due("kind 1 of a row", x.weighed(1, c, 1, 1, q), powers);
                Checks.due("kind 2 of a row", x.weighed(1, c, 1, 2, q), 1 + c * q);
                Checks.due("kind 3 of a row", x.weighed(1, c, 1, 3, q), powers);
                Checks.due("kind 2 of a column", x.weighed(c, 1, 1, 2, q), 1 + c * q);
                Checks.due("kind 3 of a column", x.weighed(c, 1, 1, 3, q), powers);
            }
        }
    }

    private static void weightsWithFullRowBefore() {
        Checks.says("4: q to the power of the number of rows that differ from the row before"
                + " (where a row of B times C stands before row 0).");
        for (int q = 1; q <= 9; q++) {
            for (int b = 1; b <= 4; b++) {
                for (int c = 1; c <= 4; c++) {
                    CornerHeaps x = new CornerHeaps();
                    Checks.due("one row of " + b + " up to " + c, x.weighed(1, b, c, 4, q),
                            (heaps(1, b, c) - 1) * q + 1);
                }
            }
            CornerHeaps x = new CornerHeaps();
            Checks.due("one column of 2 up to 1", x.weighed(2, 1, 1, 4, q), 2 * q + 1);
            Checks.due("one column of 4 up to 1", x.weighed(4, 1, 1, 4, q), 4 * q + 1);
            Checks.due("one column of 2 up to 2", x.weighed(2, 1, 2, 4, q), q * q + 4 * q + 1);
        }
    }

    private static void weightsByOneAndNine() {
        Checks.says("For q from 1 to 9, the weight of a heap is, by kind:");
        Bench.everyBox((a, b, c) -> {
            CornerHeaps x = new CornerHeaps();
            for (int kind = 0; kind <= 4; kind++) {
                Checks.due("kind " + kind + " by 1 in " + Bench.box(a, b, c), x.weighed(a, b, c, kind, 1),
                        heaps(a, b, c));
                Checks.holds("kind " + kind + " by 9 in " + Bench.box(a, b, c), x.weighed(a, b, c, kind, 9) >= 0);
            }
            Checks.due("kind 0 by 9 in " + Bench.box(a, b, c), x.weighed(a, b, c, 0, 9), heaps(a, b, c));
        });
    }

    private static void weightsModulo() {
        Checks.says("Returns the sum of the weights of all heaps of a box, modulo 1000000007.");
        BigInteger modulus = BigInteger.valueOf(1000000007);
        Bench.everyBox((a, b, c) -> {
            CornerHeaps x = new CornerHeaps();
            for (int q = 1; q <= 9; q++) {
                Checks.due("weighed(" + Bench.box(a, b, c) + ", 1, " + q + ")", x.weighed(a, b, c, 1, q),
                        weightsByVolume(a, b, c, q).mod(modulus).intValue());
            }
        });
    }

    private static void weighedBad() {
        Checks.says("Returns the remainder of the sum; BAD if the box, kind or q is out of range.");
        for (int kind : new int[] {MIN, -1, 5, 6, MAX}) {
            Bench.refused("kind " + kind, BAD, x -> x.weighed(2, 2, 2, kind, 1));
        }
        for (int q : new int[] {MIN, -1, 0, 10, 11, MAX}) {
            for (int kind = 0; kind <= 4; kind++) {
                int right = kind;
                Bench.refused("q " + q, BAD, x -> x.weighed(2, 2, 2, right, q));
            }
        }
    }

    private static void symmetricWithOthers() {
        Checks.says("Counts the heaps of a box that have all symmetries of a set (and possibly others).");
        int[][] boxes = {{2, 2, 2}, {1, 2, 3}, {1, 1, 2}, {2, 2, 1}, {3, 3, 2}, {3, 3, 3}};
        int[][] wants = {{20, 10, 5, 5, 4, 2, 1, 1, 2, 2, 1, 1, 2, 2, 1, 1},
            {10, 0, 0, 0, 2, 0, 0, 0, 0, 0, 0, 0, 0, 0, 0, 0}, {3, 3, 0, 0, 1, 1, 0, 0, 1, 1, 0, 0, 1, 1, 0, 0},
            {6, 4, 0, 0, 2, 0, 0, 0, 0, 0, 0, 0, 0, 0, 0, 0}, {175, 35, 0, 0, 9, 3, 0, 0, 5, 3, 0, 0, 3, 3, 0, 0},
            {980, 112, 20, 16, 0, 0, 0, 0, 0, 0, 0, 0, 0, 0, 0, 0}};
        for (int n = 0; n < boxes.length; n++) {
            int[] box = boxes[n];
            for (int set = 0; set <= 15; set++) {
                Checks.due("set " + set + " in " + Arrays.toString(box),
                        new CornerHeaps().symmetric(box[0], box[1], box[2], set), wants[n][set]);
            }
        }
    }

    private static void symmetricFull() {
        Checks.says("FULL if the box has more than 1000 heaps.");
        Bench.everyBox((a, b, c) -> {
            CornerHeaps x = new CornerHeaps();
            boolean tooMany = heaps(a, b, c) > 1000;
            Checks.due("symmetric(" + Bench.box(a, b, c) + ", 0)", x.symmetric(a, b, c, 0),
                    tooMany ? FULL : heaps(a, b, c));
            Checks.holds("symmetric(" + Bench.box(a, b, c) + ", 15)", x.symmetric(a, b, c, 15) == FULL == tooMany);
        });
        Checks.due("980 heaps", new CornerHeaps().symmetric(3, 3, 3, 0), 980);
        Bench.refused("1764 heaps", FULL, x -> x.symmetric(2, 4, 4, 0));
        Bench.refused("24696 heaps", FULL, x -> x.symmetric(4, 4, 3, 15));
    }

    private static void symmetricBad() {
        Checks.says("BAD if the box or set is out of range; FULL if the box has more than 1000 heaps.");
        for (int set : new int[] {MIN, -16, -1, 16, 17, 31, MAX}) {
            Bench.refused("set " + set, BAD, x -> x.symmetric(2, 2, 2, set));
            Bench.refused("set " + set + " and too many heaps", BAD, x -> x.symmetric(4, 4, 3, set));
        }
    }

    private static void betweenHeaps() {
        Checks.says("Counts the heaps of the box of two heaps of which no height is less than that of x,"
                + " and none is greater than that of y.");
        for (int from = 0; from < 20; from++) {
            CornerHeaps x = new CornerHeaps();
            x.take(2, 2, 2, from, 0);
            for (int to = 0; to < 20; to++) {
                x.take(2, 2, 2, to, 3);
                int found = 0;
                for (String heap : OF_222) {
                    found += covers(heap, OF_222.get(from)) && covers(OF_222.get(to), heap) ? 1 : 0;
                }
                Checks.due("between " + OF_222.get(from) + " and " + OF_222.get(to), x.between(0, 3), found);
            }
        }
        Bench.everyBox((a, b, c) -> {
            CornerHeaps x = Bench.with(Bench.flat(a, b, c, 0), Bench.flat(a, b, c, c));
            String box = " in " + Bench.box(a, b, c);
            Checks.due("from none to all" + box, x.between(0, 1), heaps(a, b, c));
            Checks.due("from all to none" + box, x.between(1, 0), 0);
            Checks.due("from none to none" + box, x.between(0, 0), 1);
            Checks.due("from all to all" + box, x.between(1, 1), 1);
            x.lay(0, 0, 0);
            Checks.due("from one cube to all" + box, x.between(0, 1), heaps(a, b, c) - 1);
        });
    }

    private static boolean covers(String upper, String lower) {
        for (int n = 0; n < 4; n++) {
            if (upper.charAt(n) < lower.charAt(n)) {
                return false;
            }
        }
        return true;
    }

    private static void betweenBad() {
        Checks.says("BAD if there is no heap at x or y");
        Bench.refused("x without a heap", BAD, x -> x.between(3, 0));
        Bench.refused("y without a heap", BAD, x -> x.between(0, 3));
        Bench.refused("neither with a heap", BAD, x -> x.between(3, 3));
        for (int place : Bench.NO_PLACES) {
            Bench.refused("x " + place, BAD, x -> x.between(place, 0));
            Bench.refused("y " + place, BAD, x -> x.between(0, place));
        }
    }

    private static void betweenState() {
        Checks.says("STATE if their boxes are not equal.");
        Bench.refused("other boxes", STATE, x -> x.between(0, 2));
        Bench.refused("other boxes", STATE, x -> x.between(2, 0));
        CornerHeaps x = Bench.with("x123r00;", "x132r000;", "x213r00;", "x321r000000;");
        for (int other = 1; other <= 3; other++) {
            Checks.due("the same sides in another order", x.between(0, other), STATE);
        }
    }

    private static void wayToItself() {
        Checks.says("Finds the fewest cubes that are added and removed, one by one,"
                + " to get from one heap to another one, with a heap of the same box after each of them.");
        for (int m = 0; m <= 9; m++) {
            CornerHeaps x = Bench.with("x222r2010;", "x222r2010;", "x222r0000;", "x111r1;");
            Checks.due("from a place to itself", x.way(0, 0, m), 0);
            Checks.due("from a heap to its equal", x.way(0, 1, m), 0);
            Checks.due("from the empty heap to itself", x.way(2, 2, m), 0);
            Checks.due("from the full heap to itself", x.way(3, 3, m), 0);
        }
        Bench.everyBox((a, b, c) -> {
            CornerHeaps x = Bench.with(Bench.flat(a, b, c, 0), Bench.flat(a, b, c, c));
            if (heaps(a, b, c) <= 200) {
                Checks.due("from none to all in " + Bench.box(a, b, c), x.way(0, 1, 0), a * b * c);
                Checks.due("from all to none in " + Bench.box(a, b, c), x.way(1, 0, 0), a * b * c);
            }
        });
    }

    private static void wayByDivisible() {
        Checks.says("If m is not 0, no heap on the way, except the first and the last one,"
                + " may have a volume that is divisible by m (0 is divisible).");
        // In one column there is one heap of each volume, so the way from none to all is open or shut.
        for (int c = 1; c <= 4; c++) {
            for (int m = 0; m <= 9; m++) {
                CornerHeaps x = new CornerHeaps();
                x.take(1, 1, c, 0, 0);
                x.take(1, 1, c, c, 1);
                boolean open = m == 0 || m >= c;
                Checks.due("up to " + c + " by " + m, x.way(0, 1, m), open ? c : NONE);
                Checks.due("down from " + c + " by " + m, x.way(1, 0, m), open ? c : NONE);
            }
        }
    }

    private static void wayEnds() {
        Checks.says("except the first and the last one");
        CornerHeaps x = Bench.with("x222r1100;", "x222r1110;", "x222r2200;", "x222r1000;");
        Checks.due("one cube, where the first is divisible", x.way(0, 1, 2), 1);
        Checks.due("one cube, where the last is divisible", x.way(1, 0, 2), 1);
        Checks.due("one cube, where all are divisible", x.way(0, 1, 1), 1);
        Checks.due("two cubes, where all are divisible", x.way(0, 2, 1), NONE);
        Checks.due("two cubes by volume 3, where both ends are divisible", x.way(0, 2, 2), 2);
        Checks.due("two cubes by volume 3", x.way(0, 2, 3), NONE);
        Checks.due("two cubes by volume 2", x.way(1, 3, 2), NONE);
        Checks.due("two cubes by volume 2, where the first is divisible", x.way(1, 3, 3), 2);
    }

    private static void wayZeroIsDivisible() {
        Checks.says("(0 is divisible)");
        // A way never needs to go through the empty heap, so it is only ever an end, which may be divisible.
        CornerHeaps x = Bench.with("x112r0;", "x112r2;", "x112r1;");
        for (int m = 1; m <= 9; m++) {
            Checks.due("from the empty heap by " + m, x.way(0, 2, m), 1);
            Checks.due("to the empty heap by " + m, x.way(2, 0, m), 1);
            Checks.due("two cubes from the empty heap by " + m, x.way(0, 1, m), m == 1 ? NONE : 2);
            Checks.due("two cubes to the empty heap by " + m, x.way(1, 0, m), m == 1 ? NONE : 2);
        }
    }

    private static void wayNone() {
        Checks.says("NONE if there is no such way");
        CornerHeaps x = Bench.with("x222r0000;", "x222r2222;", "x222r2010;", "x222r2100;");
        int[] upByM = {8, NONE, NONE, NONE, NONE, NONE, NONE, NONE, 8, 8};
        int[] acrossByM = {2, NONE, NONE, 2, 2, 2, 2, 2, 2, 2};
        for (int m = 0; m <= 9; m++) {
            Checks.due("from none to all by " + m, x.way(0, 1, m), upByM[m]);
            Checks.due("from all to none by " + m, x.way(1, 0, m), upByM[m]);
            Checks.due("across by " + m, x.way(2, 3, m), acrossByM[m]);
        }
        Checks.due("acts", x.count(2), 4);
    }

    private static void wayBad() {
        Checks.says("BAD if there is no heap at x or y, or m is out of range");
        for (int m : new int[] {MIN, -9, -1, 10, 11, MAX}) {
            Bench.refused("m " + m, BAD, x -> x.way(0, 1, m));
            Bench.refused("m " + m + " from a place to itself", BAD, x -> x.way(0, 0, m));
            Bench.refused("m " + m + " and other boxes", BAD, x -> x.way(0, 2, m));
        }
        Bench.refused("x without a heap", BAD, x -> x.way(3, 0, 0));
        Bench.refused("y without a heap", BAD, x -> x.way(0, 3, 0));
        for (int place : Bench.NO_PLACES) {
            Bench.refused("x " + place, BAD, x -> x.way(place, 0, 0));
            Bench.refused("y " + place, BAD, x -> x.way(0, place, 0));
        }
    }

    private static void wayState() {
        Checks.says("STATE if their boxes are not equal; FULL if the box has more than 200 heaps.");
        Bench.refused("other boxes", STATE, x -> x.way(0, 2, 0));
        Bench.refused("other boxes", STATE, x -> x.way(2, 0, 9));
        CornerHeaps x = Bench.with("x234r000000;", "x243r00000000;", "x222r0000;");
        Checks.due("other boxes, both too large", x.way(0, 1, 0), STATE);
        Checks.due("other boxes, the first too large", x.way(0, 2, 0), STATE);
        Checks.due("other boxes, the last too large", x.way(2, 0, 0), STATE);
    }

    private static void wayFull() {
        Checks.says("FULL if the box has more than 200 heaps.");
        Bench.everyBox((a, b, c) -> {
            CornerHeaps x = Bench.with(Bench.flat(a, b, c, 0), Bench.flat(a, b, c, 0));
            x.lay(1, 0, 0);
            boolean tooMany = heaps(a, b, c) > 200;
            for (int m = 0; m <= 9; m++) {
                String by = " by " + m + " in " + Bench.box(a, b, c);
                Checks.due("one cube" + by, x.way(0, 1, m), tooMany ? FULL : 1);
                Checks.due("to itself" + by, x.way(1, 1, m), tooMany ? FULL : 0);
            }
            Checks.due("m 10 in " + Bench.box(a, b, c), x.way(0, 1, 10), BAD);
            Checks.due("no heap in " + Bench.box(a, b, c), x.way(0, 2, 0), BAD);
        });
        Checks.due("the largest box with a way has", new CornerHeaps().many(2, 3, 3), 175);
        Checks.due("the smallest one without has", new CornerHeaps().many(2, 3, 4), 490);
    }
}
