import java.util.Arrays;
import java.util.List;

/** The boundary cases of places, acts, undo and images (promises 5 to 12 and 27 to 29), sentence by sentence. */
public final class ActBoundsTest {
    private static final int BAD = Bench.BAD;
    private static final int STATE = Bench.STATE;
    private static final int MIN = Bench.MIN;
    private static final int MAX = Bench.MAX;
    /** All heaps of the 2 by 2 by 2 box, by their numbers. */
    private static final List<String> OF_222 = Arrays.asList("0000", "1000", "1010", "1100", "1110", "1111", "2000",
            "2010", "2020", "2100", "2110", "2111", "2120", "2121", "2200", "2210", "2211", "2220", "2221", "2222");

    public static void main(String[] args) {
        calls512();
        fourPlaces();
        whatActsAre();
        latestTwelve();
        actsThatChangeNothing();
        undoOfPlaces();
        undoInARing();
        undoAnswers();
        nothingToUndo();
        takeInPlace();
        drawnInPlace();
        turnInPlace();
        joinInPlace();
        takeBad();
        takeNumbers();
        drawnNumbers();
        drawnSeeds();
        drawnBad();
        cubesAdded();
        cubesRemoved();
        layBad();
        layState();
        offBad();
        offState();
        turnKeepsItsSource();
        turnBad();
        joinOfTheSame();
        joinEqualHeights();
        joinBad();
        joinState();
        dropBad();
        dropOfEmptyHeap();
        imageInPlace();
        imageBad();
        restoreKeeps();
        restoreUndo();
        restoreBad();
        restoreState();
        totals();
        countBad();
        Checks.finish();
    }

    private static void calls512() {
        Checks.says("An object is used for at most 512 calls after it has been made");
        CornerHeaps x = new CornerHeaps();
        for (int n = 1; n <= 499; n++) {
            Checks.due("call " + n, x.drawn(3, 4, 4, n, n % 4), n * 16807L % 2147483647L % 24696);
        }
        for (int left = 11; left >= 0; left--) {
            Checks.due("undo()", x.undo(), left);
        }
        Checks.due("call 512", x.whole(487 % 4, 4), 487 * 16807L % 24696);
    }

    private static void fourPlaces() {
        Checks.says("There are four places, 0 to 3, each of which has a heap or none; at first all have none.");
        CornerHeaps x = new CornerHeaps();
        for (int place = 0; place <= 3; place++) {
            Checks.due("whole of place " + place + " at first", x.whole(place, 3), BAD);
            Checks.due("drop of place " + place + " at first", x.drop(place), BAD);
        }
        int[] volumes = {8, 7, 6, 6};
        for (int place = 0; place <= 3; place++) {
            Checks.due("take to place " + place, x.take(2, 2, 2, 19 - place, place), volumes[place]);
            Checks.due("count(0)", x.count(0), place + 1);
        }
        Checks.same("all places", Bench.places(x), "x222r2222;|x222r2221;|x222r2220;|x222r2211;");
    }

    private static void whatActsAre() {
        Checks.says("Successful calls of heap(), take(), drawn(), lay(), off(), turn(), join() and drop() are acts.");
        String[] actNames = {"heap", "take", "drawn", "lay", "off", "turn", "join", "drop"};
        Bench.Call[] acts = {x -> x.heap(0), x -> x.take(1, 1, 1, 0, 0), x -> x.drawn(1, 1, 1, 1, 0),
            x -> x.lay(0, 1, 1), x -> x.off(0, 0, 0), x -> x.turn(0, 0, 3), x -> x.join(0, 1, 0, 3), x -> x.drop(1)};
        for (int n = 0; n < acts.length; n++) {
            CornerHeaps x = Bench.busy();
            Checks.holds(actNames[n] + " succeeds", acts[n].on(x) >= 0);
            Checks.due("acts after " + actNames[n], x.count(2), 7);
            Checks.due("undo of " + actNames[n], x.undo(), 6);
            Checks.same("places after undo of " + actNames[n], Bench.places(x), Bench.places(Bench.busy()));
        }
        Bench.Call[] others = {x -> x.feed(1), x -> x.fault(), x -> x.height(0, 0, 0), x -> x.whole(0, 9),
            x -> x.path(0, 0, 0), x -> x.slice(0, 0, 0), x -> x.face(0, 0, 0), x -> x.kin(0, 0), x -> x.orders(0),
            x -> x.many(1, 1, 1), x -> x.minor(1, 1, 1, 1), x -> x.series(1, 1, 1, 1), x -> x.weighed(1, 1, 1, 1, 1),
            x -> x.symmetric(1, 1, 1, 1), x -> x.between(0, 1), x -> x.way(0, 1, 0), x -> x.image(1), x -> x.count(0)};
        for (int n = 0; n < others.length; n++) {
            CornerHeaps x = Bench.busy();
            Checks.holds("call " + n + " succeeds", others[n].on(x) >= 0);
            Checks.due("acts after call " + n + ", which is none", x.count(2), 6);
        }
    }

    private static void latestTwelve() {
        Checks.says("The latest 12 acts can be undone, the latest one first");
        for (int acts = 1; acts <= 40; acts++) {
            CornerHeaps x = new CornerHeaps();
            for (int n = 1; n <= acts; n++) {
                x.take(3, 3, 3, n, 0);
            }
            int most = Math.min(acts, 12);
            Checks.due("count(2) after " + acts + " acts", x.count(2), most);
            for (int left = most - 1; left >= 0; left--) {
                Checks.due("undo()", x.undo(), left);
                int number = acts - most + left;
                Checks.due("the number then", x.whole(0, 4), number == 0 ? BAD : number);
            }
            Checks.due("undo of act " + (acts - 12), x.undo(), STATE);
            Checks.due("the number stays", x.whole(0, 4), acts == most ? BAD : acts - most);
        }
    }

    private static void actsThatChangeNothing() {
        Checks.says("(also acts that change nothing)");
        Bench.Call[] acts = {x -> x.take(2, 2, 2, 10, 0), x -> x.turn(0, 0, 0), x -> x.turn(0, 1, 0),
            x -> x.turn(0, 2, 0), x -> x.join(0, 0, 0, 0), x -> x.join(0, 0, 1, 0), x -> x.drawn(2, 2, 2, 10, 0),
            x -> Bench.read(x, "x222r2110;", 0)};
        for (int n = 0; n < acts.length; n++) {
            CornerHeaps x = Bench.with("x222r2110;");
            for (int times = 1; times <= 13; times++) {
                Checks.holds("act " + n + " succeeds", acts[n].on(x) >= 0);
                Checks.same("the heap after act " + n, Bench.shown(x, 0), "x222r2110;");
                Checks.due("acts after act " + n, x.count(2), Math.min(12, times + 1));
            }
            for (int left = 11; left >= 0; left--) {
                Checks.due("undo of act " + n, x.undo(), left);
                Checks.same("the heap after undo of act " + n, Bench.shown(x, 0), "x222r2110;");
            }
            Checks.due("undo of more", x.undo(), STATE);
        }
    }

    private static void undoOfPlaces() {
        Checks.says("Undoes the latest act that can be undone: all places become as they were before it.");
        String[] seen = new String[8];
        CornerHeaps x = new CornerHeaps();
        Bench.Call[] acts = {y -> y.take(2, 2, 2, 7, 1), y -> y.turn(1, 1, 3), y -> y.drop(1), y -> y.turn(3, 2, 3),
            y -> y.take(1, 4, 4, 30, 0), y -> y.lay(3, 1, 0), y -> y.drop(3), y -> y.drop(0)};
        for (int n = 0; n < acts.length; n++) {
            seen[n] = Bench.places(x);
            Checks.holds("act " + n + " succeeds", acts[n].on(x) >= 0);
        }
        Bench.write(x, "x1");
        x.image(0);
        Checks.same("the places at last", Bench.places(x), "|||");
        for (int n = acts.length - 1; n >= 0; n--) {
            Checks.due("undo of act " + n, x.undo(), n);
            Checks.same("the places before act " + n, Bench.places(x), seen[n]);
        }
        Checks.due("the tape stays", x.count(3), 2);
        Checks.due("the image stays", x.restore(0), 0);
    }

    private static void undoInARing() {
        Checks.says("Undoes the latest act that can be undone");
        CornerHeaps x = new CornerHeaps();
        int[] numbers = new int[200];
        int first = 0;
        int last = 0;
        for (int round = 0; round < 14; round++) {
            for (int n = 0; n < 3 + round % 5; n++) {
                last++;
                numbers[last] = 1 + (round * 17 + n * 29) % 900;
                x.take(3, 3, 3, numbers[last], 2);
                first = Math.max(first, last - 12);
            }
            for (int n = 0; n < 1 + round % 4 * 3 && last > first; n++) {
                last--;
                Checks.due("undo() in round " + round, x.undo(), last - first);
                Checks.due("the number then", x.whole(2, 4), last == 0 ? BAD : numbers[last]);
            }
        }
    }

    private static void undoAnswers() {
        Checks.says("Returns how many acts can still be undone");
        CornerHeaps x = Bench.with("x111r0;", "x111r1;");
        Checks.due("undo()", x.undo(), 1);
        Checks.due("count(2)", x.count(2), 1);
        x.drop(0);
        Checks.due("undo()", x.undo(), 1);
        Checks.due("undo()", x.undo(), 0);
        Checks.due("count(2)", x.count(2), 0);
    }

    private static void nothingToUndo() {
        Checks.says("STATE if there is nothing to be undone");
        CornerHeaps x = new CornerHeaps();
        Checks.due("undo() at first", x.undo(), STATE);
        x.drop(0);
        x.lay(0, 0, 0);
        x.take(4, 4, 4, 0, 0);
        x.heap(0);
        Checks.due("undo() after refused calls", x.undo(), STATE);
        x.take(1, 1, 1, 1, 0);
        x.undo();
        Checks.due("undo() after undo of all", x.undo(), STATE);
        Checks.due("undo() again", x.undo(), STATE);
        Checks.due("acts", x.count(2), 0);
        x.take(1, 1, 1, 1, 0);
        Checks.due("an act afterwards", x.count(2), 1);
        x.image(1);
        x.restore(1);
        Checks.due("undo() after restore", x.undo(), STATE);
        Checks.due("the heap stays", x.whole(0, 4), 1);
    }

    private static void takeInPlace() {
        Checks.says("Puts the heap of a box with a given number on a place, in place of what is there.");
        for (int to = 0; to <= 3; to++) {
            CornerHeaps x = Bench.with("x112r0;", "x112r0;", "x112r0;", "x112r0;");
            Checks.due("take", x.take(1, 2, 3, 7, to), 4);
            Checks.same("places", Bench.places(x), fourWith("x112r0;", to, "x123r31;"));
        }
    }

    private static void drawnInPlace() {
        Checks.says("Puts a pseudo-random heap of a box on a place, in place of what is there");
        for (int to = 0; to <= 3; to++) {
            CornerHeaps x = Bench.with("x112r0;", "x112r0;", "x112r0;", "x112r0;");
            Checks.due("drawn", x.drawn(2, 2, 2, 1, to), 7);
            Checks.same("places", Bench.places(x), fourWith("x112r0;", to, "x222r2010;"));
        }
    }

    private static void turnInPlace() {
        Checks.says("Puts a turned heap on a place, in place of what is there.");
        for (int to = 0; to <= 3; to++) {
            CornerHeaps x = Bench.with("x112r0;", "x112r0;", "x112r0;", "x112r0;");
            Checks.due("turn", x.turn(2, 2, to), 2);
            Checks.same("places", Bench.places(x), fourWith("x112r0;", to, "x112r2;"));
        }
    }

    private static void joinInPlace() {
        Checks.says("Puts the union or the intersection of two heaps of equal boxes on a place,"
                + " in place of what is there.");
        for (int to = 0; to <= 3; to++) {
            CornerHeaps x = Bench.with("x124r31;", "x124r22;", "x111r0;", "x111r1;");
            Checks.due("union", x.join(0, 1, 0, to), 5);
            Checks.same("union", Bench.shown(x, to), "x124r32;");
            Checks.due("heaps", x.count(0), 4);
            x.undo();
            Checks.due("intersection", x.join(1, 0, 1, to), 3);
            Checks.same("intersection", Bench.shown(x, to), "x124r21;");
            x.undo();
            Checks.same("all as before", Bench.places(x), "x124r31;|x124r22;|x111r0;|x111r1;");
        }
    }

    private static String fourWith(String most, int to, String one) {
        String[] all = {most, most, most, most};
        all[to] = one;
        return String.join("|", all);
    }

    private static void takeBad() {
        Checks.says("BAD if the box or to is out of range, or the box has no heap with this number.");
        for (int[] box : Bench.NO_BOXES) {
            for (int number = 0; number <= 1; number++) {
                int wanted = number;
                Bench.refused("take of " + Arrays.toString(box), BAD,
                        x -> x.take(box[0], box[1], box[2], wanted, 0));
            }
        }
        for (int to : Bench.NO_PLACES) {
            Bench.refused("take to " + to, BAD, x -> x.take(2, 2, 2, 7, to));
        }
        for (int number : new int[] {MIN, -20, -1, 20, 21, 40, 1 << 16, MAX}) {
            Bench.refused("number " + number, BAD, x -> x.take(2, 2, 2, number, 0));
        }
    }

    private static void takeNumbers() {
        Checks.says("The heaps of a box are ordered lexicographically by their heights, row by row:"
                + " h(0, 0), h(0, 1), ..., h(1, 0), and so on."
                + " The number of a heap is how many heaps of its box come before it.");
        for (int number = 0; number < 20; number++) {
            CornerHeaps x = new CornerHeaps();
            x.take(2, 2, 2, number, 3);
            Checks.same("heap " + number, Bench.shown(x, 3), "x222r" + OF_222.get(number) + ";");
            Checks.due("its number", x.whole(3, 4), number);
        }
        Bench.everyBox((a, b, c) -> {
            CornerHeaps x = new CornerHeaps();
            int heaps = (int) heaps(a, b, c);
            String box = Bench.box(a, b, c);
            Checks.due("the first of " + box, x.take(a, b, c, 0, 0), 0);
            Checks.same("the first of " + box, Bench.shown(x, 0), Bench.flat(a, b, c, 0));
            Checks.due("the last of " + box, x.take(a, b, c, heaps - 1, 1), a * b * c);
            Checks.same("the last of " + box, Bench.shown(x, 1), Bench.flat(a, b, c, c));
            Checks.due("one more of " + box, x.take(a, b, c, heaps, 2), BAD);
            Checks.due("one less of " + box, x.take(a, b, c, -1, 2), BAD);
        });
    }

    /** MacMahon: the product of (i + j + k - 1) / (i + j + k - 2) over all cubes of the box, from 1. */
    private static long heaps(int a, int b, int c) {
        double product = 1;
        for (int i = 1; i <= a; i++) {
            for (int j = 1; j <= b; j++) {
                product *= (i + j + c - 1.0) / (i + j - 1.0);
            }
        }
        return Math.round(product);
    }

    private static void drawnNumbers() {
        Checks.says("the one with the number (seed * 16807 modulo 2147483647) modulo (the number of heaps of the box)");
        // 127773 and 127774 lie on both sides of 2147483647 / 16807, 255544 and 255548 on those of 2 ^ 32 / 16807.
        int[] seeds = {1, 2, 127773, 127774, 255544, 255548, 500000, 999998, 999999};
        Bench.everyBox((a, b, c) -> {
            for (int seed : seeds) {
                CornerHeaps x = new CornerHeaps();
                long number = seed * 16807L % 2147483647L % heaps(a, b, c);
                Checks.due("drawn from " + Bench.box(a, b, c) + " by " + seed, x.drawn(a, b, c, seed, 2), number);
                Checks.due("its number", x.whole(2, 4), number);
            }
        });
    }

    private static void drawnSeeds() {
        Checks.says("`seed`: the seed, 1 to 999999");
        Checks.due("seed 1", new CornerHeaps().drawn(4, 4, 3, 1, 0), 16807);
        Checks.due("seed 999999", new CornerHeaps().drawn(4, 4, 3, 999999, 0), 17192);
        for (int seed : new int[] {MIN, -999999, -1, 0, 1000000, 1000001, 2147483646, MAX}) {
            Bench.refused("seed " + seed, BAD, x -> x.drawn(4, 4, 3, seed, 0));
        }
    }

    private static void drawnBad() {
        Checks.says("BAD if the box, seed or to is out of range.");
        for (int[] box : Bench.NO_BOXES) {
            Bench.refused("drawn from " + Arrays.toString(box), BAD, x -> x.drawn(box[0], box[1], box[2], 1, 0));
        }
        for (int to : Bench.NO_PLACES) {
            Bench.refused("drawn to " + to, BAD, x -> x.drawn(2, 2, 2, 1, to));
        }
        Bench.refused("all wrong", BAD, x -> x.drawn(5, 5, 5, 0, 4));
    }

    private static void cubesAdded() {
        Checks.says("A cube can be added at (i, j) if h(i, j) is below C and the heights are those of a heap then");
        for (int number = 0; number < 20; number++) {
            for (int cell = 0; cell < 4; cell++) {
                oneCube(number, cell, 1);
            }
        }
        for (int c = 1; c <= 4; c++) {
            CornerHeaps x = new CornerHeaps();
            x.take(1, 1, c, 0, 0);
            for (int height = 1; height <= c; height++) {
                Checks.due("lay up to " + c, x.lay(0, 0, 0), height);
            }
            Checks.due("lay above " + c, x.lay(0, 0, 0), STATE);
        }
    }

    private static void cubesRemoved() {
        Checks.says("it can be removed at (i, j) if h(i, j) is above 0 and the heights are those of a heap then.");
        for (int number = 0; number < 20; number++) {
            for (int cell = 0; cell < 4; cell++) {
                oneCube(number, cell, -1);
            }
        }
        for (int c = 1; c <= 4; c++) {
            CornerHeaps x = new CornerHeaps();
            x.take(1, 1, c, c, 0);
            for (int height = c - 1; height >= 0; height--) {
                Checks.due("off from " + c, x.off(0, 0, 0), height);
            }
            Checks.due("off below 0", x.off(0, 0, 0), STATE);
        }
    }

    private static void oneCube(int number, int cell, int by) {
        char[] heights = OF_222.get(number).toCharArray();
        heights[cell] += by;
        int then = OF_222.indexOf(new String(heights));
        CornerHeaps x = new CornerHeaps();
        x.take(2, 2, 2, number, 1);
        int got = by > 0 ? x.lay(1, cell / 2, cell % 2) : x.off(1, cell / 2, cell % 2);
        String call = (by > 0 ? "lay" : "off") + " at cell " + cell + " of " + OF_222.get(number);
        Checks.due(call, got, then < 0 ? STATE : heights[cell] - '0');
        Checks.due("the number after " + call, x.whole(1, 4), then < 0 ? number : then);
        Checks.due("the acts after " + call, x.count(2), then < 0 ? 1 : 2);
    }

    private static void layBad() {
        Checks.says("Returns h(i, j) then; BAD if there is no heap there, or no such row or column"
                + "; STATE if no cube can be added at (i, j).");
        noSuchCell((x, heap, i, j) -> x.lay(heap, i, j));
    }

    private static void offBad() {
        Checks.says("Returns h(i, j) then; BAD if there is no heap there, or no such row or column"
                + "; STATE if no cube can be removed at (i, j).");
        noSuchCell((x, heap, i, j) -> x.off(heap, i, j));
    }

    private interface CellCall {
        int on(CornerHeaps x, int heap, int i, int j);
    }

    /** Place 2 of a busy object has 1 row and 2 columns, its place 3 no heap. */
    private static void noSuchCell(CellCall call) {
        for (int i : new int[] {MIN, -2, -1, 1, 2, 4, 1 << 28, 1 << 30, MAX}) {
            Bench.refused("row " + i, BAD, x -> call.on(x, 2, i, 0));
            Bench.refused("row " + i + " and column 1", BAD, x -> call.on(x, 2, i, 1));
        }
        for (int j : new int[] {MIN, -2, -1, 2, 3, 4, 16, 1 << 28, 1 << 30, MAX}) {
            Bench.refused("column " + j, BAD, x -> call.on(x, 2, 0, j));
        }
        Bench.refused("an empty place", BAD, x -> call.on(x, 3, 0, 0));
        for (int place : Bench.NO_PLACES) {
            Bench.refused("place " + place, BAD, x -> call.on(x, place, 0, 0));
        }
        CornerHeaps y = Bench.with("x422r22222222;", "x242r22222222;");
        Checks.due("row 4 of 4", call.on(y, 0, 4, 0), BAD);
        Checks.due("column 2 of 2", call.on(y, 0, 0, 2), BAD);
        Checks.due("row 2 of 2", call.on(y, 1, 2, 0), BAD);
        Checks.due("column 4 of 4", call.on(y, 1, 0, 4), BAD);
    }

    private static void layState() {
        Checks.says("STATE if no cube can be added at (i, j).");
        Bench.refused("lay above C", STATE, x -> x.lay(0, 0, 0));
        Bench.refused("lay above the left one", STATE, x -> x.lay(1, 0, 1));
        Bench.refused("lay above the left one of none", STATE, x -> x.lay(1, 1, 1));
        Bench.refused("lay above C in a row", STATE, x -> x.lay(2, 0, 0));
        CornerHeaps x = Bench.with("x222r2200;", "x222r2020;");
        Checks.due("above the left one alone", x.lay(0, 1, 1), STATE);
        Checks.due("above the upper one alone", x.lay(1, 1, 1), STATE);
    }

    private static void offState() {
        Checks.says("STATE if no cube can be removed at (i, j).");
        Bench.refused("off below 0", STATE, x -> x.off(0, 1, 1));
        Bench.refused("off below the right one", STATE, x -> x.off(1, 0, 0));
        CornerHeaps x = Bench.with("x222r2200;", "x222r2020;");
        Checks.due("below the right one alone", x.off(0, 0, 0), STATE);
        Checks.due("below the lower one alone", x.off(1, 0, 0), STATE);
    }

    private static void turnKeepsItsSource() {
        Checks.says("it stays as it is, unless to is the same place");
        String[] turned = {"x213r31;", "x231r111100;", "x123r20;"};
        for (int how = 0; how <= 2; how++) {
            for (int to = 0; to <= 3; to++) {
                CornerHeaps x = Bench.with("", "x123r31;");
                Checks.due("turn(1, " + how + ", " + to + ")", x.turn(1, how, to), how == 2 ? 2 : 4);
                Checks.same("the turned one", Bench.shown(x, to), turned[how]);
                Checks.same("the source", Bench.shown(x, 1), to == 1 ? turned[how] : "x123r31;");
            }
        }
    }

    private static void turnBad() {
        Checks.says("BAD if there is no heap there, or how or to is out of range.");
        for (int how : new int[] {MIN, -1, 3, 4, MAX}) {
            Bench.refused("turn " + how, BAD, x -> x.turn(0, how, 1));
        }
        for (int place : Bench.NO_PLACES) {
            Bench.refused("turn to " + place, BAD, x -> x.turn(0, 0, place));
            Bench.refused("turn of " + place, BAD, x -> x.turn(place, 0, 0));
        }
        Bench.refused("turn of an empty place", BAD, x -> x.turn(3, 0, 0));
    }

    private static void joinOfTheSame() {
        Checks.says("`y`: the place of the other heap, possibly the same");
        for (int how = 0; how <= 1; how++) {
            for (int to = 0; to <= 3; to++) {
                CornerHeaps x = Bench.with("", "x222r2010;");
                Checks.due("join(1, 1, " + how + ", " + to + ")", x.join(1, 1, how, to), 3);
                Checks.same("the joined one", Bench.shown(x, to), "x222r2010;");
                Checks.due("acts", x.count(2), 2);
            }
        }
        CornerHeaps x = Bench.with("x222r2010;", "x222r2010;");
        Checks.due("between a place and itself", x.between(0, 0), 1);
        Checks.due("between two equal heaps", x.between(0, 1), 1);
    }

    private static void joinEqualHeights() {
        Checks.says("`how`: 0: each height is the greater one of both heights; 1: the lesser one");
        for (int to = 0; to <= 3; to++) {
            CornerHeaps x = Bench.with("x222r2010;", "x222r1110;");
            Checks.due("union", x.join(0, 1, 0, to), 4);
            Checks.same("union", Bench.shown(x, to), "x222r2110;");
            x.undo();
            Checks.due("intersection", x.join(0, 1, 1, to), 2);
            Checks.same("intersection", Bench.shown(x, to), "x222r1010;");
        }
        CornerHeaps y = Bench.with("x443r0000000000000000;", "x443r3333333333333333;");
        Checks.due("union of none and all", y.join(0, 1, 0, 2), 48);
        Checks.due("intersection of none and all", y.join(0, 1, 1, 3), 0);
    }

    private static void joinBad() {
        Checks.says("BAD if there is no heap at x or y, or how or to is out of range");
        for (int place : Bench.NO_PLACES) {
            Bench.refused("x " + place, BAD, x -> x.join(place, 0, 0, 3));
            Bench.refused("y " + place, BAD, x -> x.join(0, place, 0, 3));
            Bench.refused("to " + place, BAD, x -> x.join(0, 1, 0, place));
            Bench.refused("to " + place + " with other boxes", BAD, x -> x.join(0, 2, 0, place));
        }
        Bench.refused("x without a heap", BAD, x -> x.join(3, 0, 0, 3));
        Bench.refused("y without a heap", BAD, x -> x.join(0, 3, 0, 3));
        for (int how : new int[] {MIN, -1, 2, 3, MAX}) {
            Bench.refused("how " + how, BAD, x -> x.join(0, 1, how, 3));
            Bench.refused("how " + how + " with other boxes", BAD, x -> x.join(0, 2, how, 3));
        }
    }

    private static void joinState() {
        Checks.says("STATE if the boxes are not equal.");
        Bench.refused("other boxes", STATE, x -> x.join(0, 2, 0, 3));
        Bench.refused("other boxes", STATE, x -> x.join(2, 1, 1, 2));
        CornerHeaps x = Bench.with("x222r0000;", "x322r000000;", "x232r000000;", "x223r0000;");
        for (int other = 1; other <= 3; other++) {
            Checks.due("join with box " + other, x.join(0, other, 0, 0), STATE);
            Checks.due("join of box " + other, x.join(other, 0, 1, 0), STATE);
            Checks.due("between with box " + other, x.between(0, other), STATE);
            Checks.due("between of box " + other, x.between(other, 0), STATE);
            Checks.due("way with box " + other, x.way(0, other, 0), STATE);
            Checks.due("way of box " + other, x.way(other, 0, 0), STATE);
        }
    }

    private static void dropBad() {
        Checks.says("Returns its volume; BAD if there is no heap there.");
        Bench.refused("drop of an empty place", BAD, x -> x.drop(3));
        for (int place : Bench.NO_PLACES) {
            Bench.refused("drop of " + place, BAD, x -> x.drop(place));
        }
        for (int place = 0; place <= 3; place++) {
            CornerHeaps x = Bench.with("x443r3333333333333333;", "x111r1;", "x123r31;", "x112r2;");
            Checks.due("drop(" + place + ")", x.drop(place), new int[] {48, 1, 4, 2}[place]);
            Checks.due("drop(" + place + ") again", x.drop(place), BAD);
            Checks.due("heaps", x.count(0), 3);
        }
    }

    private static void dropOfEmptyHeap() {
        Checks.says("Removes the heap from a place.");
        CornerHeaps x = Bench.with("x443r0000000000000000;");
        Checks.due("heaps", x.count(0), 1);
        Checks.due("drop of the empty heap", x.drop(0), 0);
        Checks.due("heaps", x.count(0), 0);
        Checks.due("undo", x.undo(), 1);
        Checks.due("heaps", x.count(0), 1);
    }

    private static void imageInPlace() {
        Checks.says("Keeps an image of all four places, in place of an earlier one.");
        for (int k = 0; k <= 1; k++) {
            CornerHeaps x = new CornerHeaps();
            Checks.due("image of no heaps", x.image(k), 0);
            for (int place = 0; place <= 3; place++) {
                x.take(1, 1, 4, place + 1, place);
                Checks.due("image(" + k + ")", x.image(k), place + 1);
                String then = Bench.places(x);
                x.take(1, 1, 4, 0, 0);
                x.take(1, 1, 4, 0, 3);
                Checks.due("restore(" + k + ")", x.restore(k), place + 1);
                Checks.same("the image", Bench.places(x), then);
                Checks.due("the other image", x.restore(1 - k), STATE);
            }
            while (x.count(0) > 0) {
                x.drop(x.count(0) - 1);
            }
            Checks.due("image of no heaps again", x.image(k), 0);
            x.take(1, 1, 4, 0, 0);
            Checks.due("restore of no heaps", x.restore(k), 0);
            Checks.same("no heaps", Bench.places(x), "|||");
        }
    }

    private static void imageBad() {
        Checks.says("Returns how many heaps there are; BAD if k is neither 0 nor 1.");
        for (int k : new int[] {MIN, -2, -1, 2, 3, 1 << 30, MAX}) {
            Bench.refused("image(" + k + ")", BAD, x -> x.image(k));
        }
    }

    private static void restoreKeeps() {
        Checks.says("Restores an image, which stays kept.");
        CornerHeaps x = Bench.busy();
        x.image(1);
        String first = "x222r2010;|x222r1100;|x123r31;|";
        String second = "x222r2110;|x222r1100;|x123r31;|";
        for (int times = 0; times < 3; times++) {
            Checks.due("restore(0)", x.restore(0), 3);
            Checks.same("image 0", Bench.places(x), first);
            x.lay(0, 0, 1);
            x.drop(1);
            x.turn(0, 1, 2);
            Checks.due("restore(1)", x.restore(1), 3);
            Checks.same("image 1", Bench.places(x), second);
            x.off(0, 0, 1);
            x.undo();
            x.drop(2);
        }
    }

    private static void restoreUndo() {
        Checks.says("Nothing can be undone then.");
        CornerHeaps x = Bench.busy();
        x.restore(0);
        Checks.due("count(2)", x.count(2), 0);
        Checks.due("undo()", x.undo(), STATE);
        Checks.same("the places stay", Bench.places(x), "x222r2010;|x222r1100;|x123r31;|");
        Checks.due("the tape stays", x.count(3), 8);
        Checks.due("the fault stays", x.fault(), 2);
        x.drop(0);
        x.drop(1);
        Checks.due("acts since then", x.count(2), 2);
        Checks.due("undo()", x.undo(), 1);
        Checks.due("undo()", x.undo(), 0);
        Checks.due("undo() of the restoring", x.undo(), STATE);
        Checks.same("the places then", Bench.places(x), "x222r2010;|x222r1100;|x123r31;|");
        for (int n = 1; n <= 13; n++) {
            x.take(3, 3, 3, n, 3);
            Checks.due("acts since then", x.count(2), Math.min(n, 12));
        }
        x.restore(0);
        Checks.due("undo() after 13 acts", x.undo(), STATE);
    }

    private static void restoreBad() {
        Checks.says("Returns how many heaps there are then; BAD if k is neither 0 nor 1");
        for (int k : new int[] {MIN, -2, -1, 2, 3, 1 << 30, MAX}) {
            Bench.refused("restore(" + k + ")", BAD, x -> x.restore(k));
        }
    }

    private static void restoreState() {
        Checks.says("STATE if this image has not been kept.");
        Bench.refused("restore(1)", STATE, x -> x.restore(1));
        CornerHeaps x = Bench.with("x111r1;");
        Checks.due("restore(0)", x.restore(0), STATE);
        Checks.due("restore(1)", x.restore(1), STATE);
        x.image(1);
        Checks.due("restore(0)", x.restore(0), STATE);
        Checks.due("restore(1)", x.restore(1), 1);
        x.image(2);
        Checks.due("restore(0) after a refused image", x.restore(0), STATE);
    }

    private static void totals() {
        Checks.says("`what`: 0: heaps; 1: the sum of the volumes of all heaps; 2: acts that can be undone;"
                + " 3: bytes on the tape");
        CornerHeaps x = new CornerHeaps();
        int[] none = {0, 0, 0, 0};
        int[] all = {4, 192, 12, 60};
        for (int what = 0; what <= 3; what++) {
            Checks.due("count(" + what + ") of nothing", x.count(what), none[what]);
        }
        for (int n = 0; n < 16; n++) {
            x.take(3, 4, 4, 24695, n % 4);
        }
        for (int n = 0; n < 61; n++) {
            x.feed(n);
        }
        for (int what = 0; what <= 3; what++) {
            Checks.due("count(" + what + ") of all", x.count(what), all[what]);
        }
        x.take(3, 4, 4, 0, 2);
        Checks.due("an empty heap is one", x.count(0), 4);
        Checks.due("but has no volume", x.count(1), 144);
    }

    private static void countBad() {
        Checks.says("Returns that number; BAD if what is not 0 to 3.");
        for (int what : new int[] {MIN, -1, 4, 5, MAX}) {
            Bench.refused("count(" + what + ")", BAD, x -> x.count(what));
        }
    }
}
