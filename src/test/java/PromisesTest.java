/** Each promise by itself: ordinary inputs, the edges that the document names, and wrong inputs. */
public final class PromisesTest {
    private static final int NONE = CornerHeaps.NONE;
    private static final int BAD = CornerHeaps.BAD;
    private static final int STATE = CornerHeaps.STATE;
    private static final int FULL = CornerHeaps.FULL;
    private static final int MIN = Integer.MIN_VALUE;
    private static final int MAX = Integer.MAX_VALUE;

    private static int promise = 0;

    public static void main(String[] args) {
        newObject();
        feed();
        heapsFromTexts();
        faultsOfTexts();
        heapAndItsState();
        fault();
        undo();
        undoOfEveryAct();
        take();
        drawn();
        lay();
        off();
        turn();
        join();
        drop();
        height();
        whole();
        path();
        slice();
        face();
        kin();
        orders();
        many();
        minor();
        series();
        weighed();
        symmetric();
        between();
        way();
        image();
        restore();
        count();
        Checks.finish();
    }

    private static void due(String call, long got, long want) {
        Checks.due("promise " + promise + ": " + call, got, want);
    }

    private static void dueHeap(String call, CornerHeaps x, int place, String want) {
        String got = Bench.shown(x, place);
        Checks.holds("promise " + promise + ": " + call + " leaves " + want + ", not " + got, got.equals(want));
    }

    private static void newObject() {
        promise = 1;
        CornerHeaps x = new CornerHeaps();
        for (int what = 0; what <= 3; what++) {
            due("count " + what, x.count(what), 0);
        }
        for (int place = 0; place <= 3; place++) {
            due("whole of place " + place, x.whole(place, 3), BAD);
        }
        due("fault", x.fault(), 0);
        due("undo", x.undo(), STATE);
        due("restore 0", x.restore(0), STATE);
        due("restore 1", x.restore(1), STATE);
        CornerHeaps other = new CornerHeaps();
        x.take(2, 2, 2, 7, 0);
        x.feed(120);
        due("another object's heaps", other.count(0), 0);
        due("another object's tape", other.count(3), 0);
    }

    private static void feed() {
        promise = 2;
        CornerHeaps x = new CornerHeaps();
        due("feed(0)", x.feed(0), 1);
        due("feed(255)", x.feed(255), 2);
        due("feed(-1)", x.feed(-1), BAD);
        due("feed(256)", x.feed(256), BAD);
        due("feed(MIN)", x.feed(MIN), BAD);
        due("feed(MAX)", x.feed(MAX), BAD);
        due("length after wrong bytes", x.count(3), 2);
        for (int n = 3; n <= 60; n++) {
            due("feed of byte " + n, x.feed(48), n);
        }
        due("feed of byte 61", x.feed(48), FULL);
        due("a wrong byte on a full tape", x.feed(256), BAD);
        due("length of a full tape", x.count(3), 60);
        due("heap of a full tape", x.heap(0), -1000100);
        due("feed after heap", x.feed(120), 1);
        CornerHeaps y = new CornerHeaps();
        Bench.write(y, "x111r1;" + "0".repeat(60));
        due("a right text with a tail", y.heap(0), -1000107);
    }

    private static void heapsFromTexts() {
        promise = 3;
        String[][] texts = {
            {"x111r0;", "x111r0;"}, {"x111r1;", "x111r1;"}, {"x222r2010;", "x222r2010;"},
            {"x443r3333333333333333;", "x443r3333333333333333;"},
            {"x344r444444444444;", "x344r444444444444;"},
            {"x222d1211;", "x222r2111;"}, {"x222d0201;", "x222r2100;"}, {"x122d21;", "x122r21;"},
            {"x212d12;", "x212r21;"}, {"x333d120310201;", "x333r321210100;"},
            {"x234d241313;", "x234r433211;"},
            {"x112penn;", "x112r2;"}, {"x112pnen;", "x112r1;"}, {"x112pnne;", "x112r0;"},
            {"x212penn,nen;", "x212r21;"}, {"x122penen;", "x122r21;"}, {"x222pneen,neen;", "x222r1111;"},
            {"x333penenen,nenene,nnenee;", "x333r321210100;"},
            {"x434peeennnn,eeennnn,nnnneee,nnnneee;", "x434r444444000000;"}};
        for (String[] text : texts) {
            CornerHeaps x = new CornerHeaps();
            Bench.write(x, text[0]);
            int volume = text[1].substring(5).chars().filter(sign -> sign != ';').map(sign -> sign - '0').sum();
            due(text[0], x.heap(3), volume);
            dueHeap(text[0], x, 3, text[1]);
        }
    }

    private static void faultsOfTexts() {
        promise = 3;
        due("the empty text", new CornerHeaps().heap(0), -1000100);
        String[] beginnings = {"0 1 X", "0 1 y111r0;", "1 1 x", "1 1 xa", "1 2 x0", "1 2 x5", "1 2 x9", "2 1 x1",
            "2 2 x10", "2 2 x15", "2 1 x1/", "2 1 x1:", "3 1 x11", "3 2 x110", "3 2 x115", "3 2 x444", "3 2 x449",
            "3 1 x44:", "5 1 x443r", "4 1 x111", "4 1 x111e", "4 1 x111R", "4 1 x1111", "4 1 x111;"};
        String[] rows = {"5 1 x111r", "5 1 x111r;", "5 2 x111r2", "5 2 x111r9", "6 1 x111r1", "6 1 x111r11",
            "6 1 x111r1,", "7 1 x111r1;;", "7 1 x111r1;x", "6 2 x222r0100;", "7 2 x222r1020;", "8 2 x222r2101;",
            "8 2 x222r2011;", "8 2 x222r2223;", "8 1 x222r222;", "9 1 x222r2222", "9 1 x222r22222"};
        String[] diagonals = {"5 1 x222d", "6 2 x222d10", "7 2 x222d122", "8 2 x222d1213", "8 2 x222d1210;",
            "8 2 x222d1112;", "5 2 x222d3", "6 2 x212d21;", "6 2 x122d12;", "9 1 x222d1211", "9 1 x222d12111",
            "10 1 x222d1211;;"};
        String[] words = {"5 1 x112p", "5 1 x112p,", "5 1 x112p;", "7 1 x112pne;", "7 1 x112pne,", "7 2 x112pnee",
            "7 2 x112pnnn", "8 1 x112pnen", "8 1 x112pnen,", "9 1 x112pnen;;", "8 1 x212pnen;", "9 2 x212pnen,enn;",
            "9 1 x212pnen,;", "12 1 x212pnen,nen,", "10 2 x222pneen,enen;", "8 2 x222pnenn;", "7 2 x222peee",
            "12 2 x222pnene,neen;", "5 1 x112p1"};
        String[] behindWholeWords = {"9 2 x222pnenee", "9 2 x222pnenen", "9 2 x222pneenn", "9 2 x222pnneee",
            "8 2 x112pnene", "8 2 x112pnenn;", "8 2 x112pnnee;", "8 2 x112pennn;", "12 2 x212pnen,nene;",
            "12 2 x212pnen,nenn", "8 2 x212pnene,nen;", "8 1 x112pnenx", "8 1 x112pnenE", "8 1 x112pnen1",
            "8 1 x112pnend", "9 1 x112pnen;e", "9 1 x112pnen;n", "12 1 x212pnen,nen,e", "6 1 x111r1e", "6 1 x111d1n"};
        String[][] all = {beginnings, rows, diagonals, words, behindWholeWords};
        for (String[] sort : all) {
            for (String line : sort) {
                oneFault(line.split(" ", 3));
            }
        }
    }

    private static void oneFault(String[] line) {
        CornerHeaps x = Bench.with("x122r21;");
        due("heap of " + line[2], Bench.read(x, line[2], 0), -1000100 - Integer.parseInt(line[0]));
        due("fault of " + line[2], x.fault(), Integer.parseInt(line[1]));
        due("tape after " + line[2], x.count(3), 0);
        due("acts after " + line[2], x.count(2), 1);
        dueHeap(line[2], x, 0, "x122r21;");
    }

    private static void heapAndItsState() {
        promise = 3;
        CornerHeaps x = Bench.with("x222r2010;");
        Bench.write(x, "x111r1;");
        for (int place : Bench.NO_PLACES) {
            due("heap to " + place, x.heap(place), BAD);
        }
        due("the tape stays", x.count(3), 7);
        due("no fault was found", x.fault(), 0);
        due("heap in place of another one", x.heap(0), 1);
        dueHeap("heap in place of another one", x, 0, "x111r1;");
        due("the tape is empty", x.count(3), 0);
        due("acts", x.count(2), 2);
    }

    private static void fault() {
        promise = 4;
        CornerHeaps x = new CornerHeaps();
        due("no text", x.fault(), 0);
        Bench.read(x, "x111r0;", 0);
        due("a right text", x.fault(), 0);
        Bench.read(x, "x5", 0);
        due("a text with fault 2", x.fault(), 2);
        Bench.read(x, "x111r0;", 0);
        due("a right text afterwards", x.fault(), 2);
        x.heap(4);
        due("no text read", x.fault(), 2);
        x.undo();
        due("undo", x.fault(), 2);
        Bench.read(x, "y", 0);
        due("a text with fault 1", x.fault(), 1);
        Bench.read(x, "x222pnenee", 0);
        due("an e behind a whole word", x.fault(), 2);
        Bench.read(x, "x222pnenex", 0);
        due("an x behind a whole word", x.fault(), 1);
        Bench.read(x, "x222pnene,nenen;", 0);
        due("an n behind the last word", x.fault(), 2);
    }

    private static void undo() {
        promise = 5;
        CornerHeaps x = new CornerHeaps();
        due("nothing done", x.undo(), STATE);
        for (int number = 0; number < 15; number++) {
            x.take(2, 2, 2, number, number % 2);
            due("acts", x.count(2), Math.min(12, number + 1));
        }
        x.feed(120);
        for (int left = 11; left >= 0; left--) {
            due("undo", x.undo(), left);
            due("the latest number", x.whole(left % 2, 4), left + 2);
            due("the one before", x.whole((left + 1) % 2, 4), left + 1);
        }
        due("undo of all", x.undo(), STATE);
        due("heaps stay", x.count(0), 2);
        due("the tape stays", x.count(3), 1);
        x.lay(0, 9, 9);
        x.take(2, 2, 2, 20, 0);
        x.drop(3);
        due("errors are no acts", x.undo(), STATE);
        x.join(0, 0, 0, 0);
        due("an act that changes nothing", x.count(2), 1);
        x.take(2, 2, 2, 5, 0);
        due("undo", x.undo(), 1);
        x.take(2, 2, 2, 6, 0);
        due("acts after undo", x.count(2), 2);
        due("undo", x.undo(), 1);
        due("number", x.whole(0, 4), 2);
        due("undo", x.undo(), 0);
        due("undo", x.undo(), STATE);
    }

    private static void undoOfEveryAct() {
        promise = 5;
        for (int act = 0; act < 8; act++) {
            CornerHeaps x = Bench.with("x222r2010;", "x222r2100;");
            switch (act) {
                case 0: Bench.read(x, "x111r1;", 0); break;
                case 1: x.take(2, 2, 2, 19, 0); break;
                case 2: x.drawn(2, 2, 2, 2, 0); break;
                case 3: x.lay(0, 0, 1); break;
                case 4: x.off(0, 0, 0); break;
                case 5: x.turn(0, 2, 0); break;
                case 6: x.join(0, 1, 0, 0); break;
                default: x.drop(0); break;
            }
            Checks.holds("promise 5: act " + act + " changes the place", !Bench.shown(x, 0).equals("x222r2010;"));
            due("undo of act " + act, x.undo(), 2);
            dueHeap("undo of act " + act, x, 0, "x222r2010;");
            dueHeap("undo of act " + act, x, 1, "x222r2100;");
        }
    }

    private static void take() {
        promise = 6;
        CornerHeaps x = new CornerHeaps();
        due("take(2, 2, 2, 0, 0)", x.take(2, 2, 2, 0, 0), 0);
        dueHeap("take(2, 2, 2, 0, 0)", x, 0, "x222r0000;");
        due("take(2, 2, 2, 7, 1)", x.take(2, 2, 2, 7, 1), 3);
        dueHeap("take(2, 2, 2, 7, 1)", x, 1, "x222r2010;");
        due("take(2, 2, 2, 19, 2)", x.take(2, 2, 2, 19, 2), 8);
        due("take(3, 4, 4, 24695, 3)", x.take(3, 4, 4, 24695, 3), 48);
        due("take(1, 2, 3, 7, 3)", x.take(1, 2, 3, 7, 3), 4);
        dueHeap("take(1, 2, 3, 7, 3)", x, 3, "x123r31;");
        due("number 20", x.take(2, 2, 2, 20, 0), BAD);
        due("number -1", x.take(2, 2, 2, -1, 0), BAD);
        due("number MIN", x.take(2, 2, 2, MIN, 0), BAD);
        due("number MAX", x.take(2, 2, 2, MAX, 0), BAD);
        for (int place : Bench.NO_PLACES) {
            due("take to " + place, x.take(2, 2, 2, 0, place), BAD);
        }
        for (int[] box : Bench.NO_BOXES) {
            due("take from no box", x.take(box[0], box[1], box[2], 0, 0), BAD);
        }
        due("acts", x.count(2), 5);
    }

    private static void drawn() {
        promise = 7;
        CornerHeaps x = new CornerHeaps();
        due("drawn(2, 2, 2, 1, 0)", x.drawn(2, 2, 2, 1, 0), 16807 % 20);
        dueHeap("drawn(2, 2, 2, 1, 0)", x, 0, "x222r2010;");
        due("a product above the modulus", x.drawn(2, 2, 2, 127774, 1), 11);
        dueHeap("a product above the modulus", x, 1, "x222r2111;");
        due("drawn(4, 3, 4, 999999, 2)", x.drawn(4, 3, 4, 999999, 2), 17192);
        due("its number", x.whole(2, 4), 17192);
        due("drawn(3, 3, 3, 5, 2)", x.drawn(3, 3, 3, 5, 2), 735);
        due("seed 0", x.drawn(2, 2, 2, 0, 0), BAD);
        due("seed -1", x.drawn(2, 2, 2, -1, 0), BAD);
        due("seed 1000000", x.drawn(2, 2, 2, 1000000, 0), BAD);
        due("seed MIN", x.drawn(2, 2, 2, MIN, 0), BAD);
        for (int place : Bench.NO_PLACES) {
            due("drawn to " + place, x.drawn(2, 2, 2, 1, place), BAD);
        }
        for (int[] box : Bench.NO_BOXES) {
            due("drawn from no box", x.drawn(box[0], box[1], box[2], 1, 0), BAD);
        }
        due("acts", x.count(2), 4);
    }

    private static void lay() {
        promise = 8;
        CornerHeaps x = Bench.with("x222r0000;");
        due("lay at (1, 1) of none", x.lay(0, 1, 1), STATE);
        due("lay at (0, 1) of none", x.lay(0, 0, 1), STATE);
        due("lay at (1, 0) of none", x.lay(0, 1, 0), STATE);
        due("first cube", x.lay(0, 0, 0), 1);
        due("second cube", x.lay(0, 0, 0), 2);
        due("above C", x.lay(0, 0, 0), STATE);
        due("beside", x.lay(0, 0, 1), 1);
        due("only one neighbour", x.lay(0, 1, 1), STATE);
        due("below", x.lay(0, 1, 0), 1);
        due("between both", x.lay(0, 1, 1), 1);
        due("as high as its neighbours", x.lay(0, 1, 1), STATE);
        dueHeap("lay", x, 0, "x222r2111;");
        due("acts", x.count(2), 6);
        due("row -1", x.lay(0, -1, 0), BAD);
        due("row 2", x.lay(0, 2, 0), BAD);
        due("column -1", x.lay(0, 0, -1), BAD);
        due("column 2", x.lay(0, 0, 2), BAD);
        due("row MIN", x.lay(0, MIN, 0), BAD);
        due("column MAX", x.lay(0, 0, MAX), BAD);
        due("an empty place", x.lay(1, 0, 0), BAD);
        for (int place : Bench.NO_PLACES) {
            due("place " + place, x.lay(place, 0, 0), BAD);
        }
    }

    private static void off() {
        promise = 9;
        CornerHeaps x = Bench.with("x222r2222;");
        due("under others", x.off(0, 0, 0), STATE);
        due("before a right neighbour", x.off(0, 1, 0), STATE);
        due("before a lower neighbour", x.off(0, 0, 1), STATE);
        due("the free cube", x.off(0, 1, 1), 1);
        due("the next one", x.off(0, 1, 1), 0);
        due("nothing left", x.off(0, 1, 1), STATE);
        due("now free", x.off(0, 1, 0), 1);
        due("free on one side", x.off(0, 0, 0), STATE);
        due("the other one", x.off(0, 0, 1), 1);
        due("free on both sides", x.off(0, 0, 0), 1);
        dueHeap("off", x, 0, "x222r1110;");
        due("row -1", x.off(0, -1, 0), BAD);
        due("row 2", x.off(0, 2, 0), BAD);
        due("column -1", x.off(0, 0, -1), BAD);
        due("column 2", x.off(0, 0, 2), BAD);
        due("row MAX", x.off(0, MAX, 0), BAD);
        due("an empty place", x.off(1, 0, 0), BAD);
        for (int place : Bench.NO_PLACES) {
            due("place " + place, x.off(place, 0, 0), BAD);
        }
        due("acts", x.count(2), 6);
    }

    private static void turn() {
        promise = 10;
        CornerHeaps x = Bench.with("x123r31;");
        due("transpose", x.turn(0, 0, 1), 4);
        dueHeap("transpose", x, 1, "x213r31;");
        due("rotate", x.turn(0, 1, 2), 4);
        dueHeap("rotate", x, 2, "x231r111100;");
        due("complement", x.turn(0, 2, 3), 2);
        dueHeap("complement", x, 3, "x123r20;");
        dueHeap("the source", x, 0, "x123r31;");
        due("rotate again", x.turn(2, 1, 2), 4);
        dueHeap("rotate again", x, 2, "x312r211;");
        due("rotate a third time", x.turn(2, 1, 2), 4);
        dueHeap("rotate a third time", x, 2, "x123r31;");
        due("onto itself", x.turn(0, 2, 0), 2);
        dueHeap("onto itself", x, 0, "x123r20;");
        due("turn -1", x.turn(0, -1, 1), BAD);
        due("turn 3", x.turn(0, 3, 1), BAD);
        due("acts", x.count(2), 7);
        x.drop(1);
        due("an empty place", x.turn(1, 0, 0), BAD);
        for (int place : Bench.NO_PLACES) {
            due("from place " + place, x.turn(place, 0, 0), BAD);
            due("to place " + place, x.turn(0, 0, place), BAD);
        }
    }

    private static void join() {
        promise = 11;
        CornerHeaps x = Bench.with("x222r2010;", "x222r1100;", "x223r0000;");
        due("union", x.join(0, 1, 0, 3), 4);
        dueHeap("union", x, 3, "x222r2110;");
        due("intersection", x.join(1, 0, 1, 3), 1);
        dueHeap("intersection", x, 3, "x222r1000;");
        due("with itself", x.join(0, 0, 1, 0), 3);
        dueHeap("with itself", x, 0, "x222r2010;");
        due("other boxes", x.join(0, 2, 0, 3), STATE);
        due("other boxes and how", x.join(0, 2, 2, 3), BAD);
        due("other boxes and to", x.join(0, 2, 0, 4), BAD);
        due("how -1", x.join(0, 1, -1, 3), BAD);
        due("how 2", x.join(0, 1, 2, 3), BAD);
        due("acts", x.count(2), 6);
        x.drop(3);
        due("an empty place", x.join(0, 3, 0, 3), BAD);
        due("an empty place", x.join(3, 0, 0, 3), BAD);
        for (int place : Bench.NO_PLACES) {
            due("x " + place, x.join(place, 0, 0, 0), BAD);
            due("y " + place, x.join(0, place, 0, 0), BAD);
            due("to " + place, x.join(0, 0, 0, place), BAD);
        }
        CornerHeaps y = Bench.with("x123r00;", "x213r00;", "x132r000;");
        due("sides in another order", y.join(0, 1, 0, 3), STATE);
        due("sides in another order", y.join(0, 2, 0, 3), STATE);
    }

    private static void drop() {
        promise = 12;
        CornerHeaps x = Bench.with("x222r2010;", "x111r0;");
        due("a heap", x.drop(0), 3);
        due("heaps then", x.count(0), 1);
        due("no heap", x.drop(0), BAD);
        due("the empty heap", x.drop(1), 0);
        for (int place : Bench.NO_PLACES) {
            due("place " + place, x.drop(place), BAD);
        }
        due("acts", x.count(2), 4);
    }

    private static void height() {
        promise = 13;
        CornerHeaps x = Bench.with("x234r431210;");
        int[] heights = {4, 3, 1, 2, 1, 0};
        for (int cell = 0; cell < 6; cell++) {
            due("cell " + cell, x.height(0, cell / 3, cell % 3), heights[cell]);
        }
        due("row -1", x.height(0, -1, 0), BAD);
        due("row 2", x.height(0, 2, 0), BAD);
        due("column -1", x.height(0, 0, -1), BAD);
        due("column 3", x.height(0, 0, 3), BAD);
        due("row MIN", x.height(0, MIN, 0), BAD);
        due("column MAX", x.height(0, 0, MAX), BAD);
        due("an empty place", x.height(1, 0, 0), BAD);
        for (int place : Bench.NO_PLACES) {
            due("place " + place, x.height(place, 0, 0), BAD);
        }
    }

    private static void whole() {
        promise = 14;
        CornerHeaps x = Bench.with("x333r321210100;", "x123r31;", "x222r2110;", "x443r3333333300000000;");
        long[][] wants = {{3, 3, 3, 10, 310, 4, 7, 6, 3, 2}, {1, 2, 3, 4, 7, 3, 1, 2, 0, 12},
            {2, 2, 2, 4, 10, 2, 3, 3, 15, 1}, {4, 4, 3, 24, 24206, 6, 1, 1, 4, 6}};
        for (int place = 0; place <= 3; place++) {
            for (int what = 0; what <= 9; what++) {
                due("whole(" + place + ", " + what + ")", x.whole(place, what), wants[place][what]);
            }
            due("what -1", x.whole(place, -1), BAD);
            due("what 10", x.whole(place, 10), BAD);
            due("what MIN", x.whole(place, MIN), BAD);
        }
        for (int place : Bench.NO_PLACES) {
            due("place " + place, x.whole(place, 0), BAD);
        }
        x.drop(0);
        due("an empty place", x.whole(0, 0), BAD);
    }

    private static void path() {
        promise = 15;
        CornerHeaps x = Bench.with("x234r431210;");
        String[] words = {"enennen", "nnenene"};
        for (int i = 0; i < 2; i++) {
            for (int k = 0; k < 7; k++) {
                due("path(0, " + i + ", " + k + ")", x.path(0, i, k), words[i].charAt(k));
            }
            due("behind the word", x.path(0, i, 7), NONE);
            due("far behind the word", x.path(0, i, MAX), NONE);
        }
        due("k -1", x.path(0, 0, -1), BAD);
        due("k MIN", x.path(0, 0, MIN), BAD);
        due("row -1", x.path(0, -1, 0), BAD);
        due("row 2", x.path(0, 2, 0), BAD);
        due("no such row and letter", x.path(0, 2, 7), BAD);
        due("an empty place", x.path(1, 0, 0), BAD);
        for (int place : Bench.NO_PLACES) {
            due("place " + place, x.path(place, 0, 0), BAD);
        }
    }

    private static void slice() {
        promise = 16;
        CornerHeaps x = Bench.with("x234r431210;");
        String[] diagonals = {"2", "41", "30", "1"};
        for (int d = -1; d <= 2; d++) {
            String diagonal = diagonals[d + 1];
            for (int k = 0; k <= 4; k++) {
                int want = k < diagonal.length() ? diagonal.charAt(k) - '0' : NONE;
                due("slice(0, " + d + ", " + k + ")", x.slice(0, d, k), want);
            }
            due("k MAX", x.slice(0, d, MAX), NONE);
            due("k -1", x.slice(0, d, -1), BAD);
            due("k MIN", x.slice(0, d, MIN), BAD);
        }
        due("d -2", x.slice(0, -2, 0), BAD);
        due("d 3", x.slice(0, 3, 0), BAD);
        due("d MIN", x.slice(0, MIN, 0), BAD);
        due("d MAX", x.slice(0, MAX, MAX), BAD);
        due("an empty place", x.slice(1, 0, 0), BAD);
        for (int place : Bench.NO_PLACES) {
            due("place " + place, x.slice(place, 0, 0), BAD);
        }
    }

    private static void face() {
        promise = 17;
        CornerHeaps x = Bench.with("x111r0;", "x111r1;");
        int[][][] faces = {{{0, -2, 1}, {1, 1, 2}, {-1, 1, 3}}, {{0, 2, 1}, {-1, -1, 2}, {1, -1, 3}}};
        for (int place = 0; place <= 1; place++) {
            for (int u = -6; u <= 6; u++) {
                for (int v = -8; v <= 8; v++) {
                    int want = 0;
                    for (int[] face : faces[place]) {
                        want = face[0] == u && face[1] == v ? face[2] : want;
                    }
                    due("face(" + place + ", " + u + ", " + v + ")", x.face(place, u, v), want);
                }
            }
            due("far off", x.face(place, MIN, MAX), 0);
            due("far off", x.face(place, 0, MIN), 0);
            due("far off", x.face(place, MAX, -1), 0);
        }
        due("an empty place", x.face(2, 0, 0), BAD);
        for (int place : Bench.NO_PLACES) {
            due("place " + place, x.face(place, 0, 0), BAD);
        }
    }

    private static void kin() {
        promise = 18;
        CornerHeaps x = Bench.with("x111r1;", "x123r31;", "x222r2010;");
        due("kin(0, 0)", x.kin(0, 0), 0);
        due("kin(0, 1)", x.kin(0, 1), 1);
        due("kin(0, 2)", x.kin(0, 2), NONE);
        due("kin(0, MAX)", x.kin(0, MAX), NONE);
        due("kin(1, 0)", x.kin(1, 0), 3);
        due("kin(1, 1)", x.kin(1, 1), 7);
        due("kin(1, 12)", x.kin(1, 12), NONE);
        due("kin(2, 1)", x.kin(2, 1), 7);
        due("kin(2, 6)", x.kin(2, 6), NONE);
        due("k -1", x.kin(0, -1), BAD);
        due("k MIN", x.kin(0, MIN), BAD);
        due("an empty place", x.kin(3, 0), BAD);
        for (int place : Bench.NO_PLACES) {
            due("place " + place, x.kin(place, 0), BAD);
        }
        due("acts", x.count(2), 3);
    }

    private static void orders() {
        promise = 19;
        CornerHeaps x = Bench.with("", "x222r2222;", "x443r3210100010000000;", "x333r222210000;");
        due("volume 8", x.orders(1), 48);
        due("most orders", x.orders(2), 336);
        due("volume 9", x.orders(3), FULL);
        x.take(4, 4, 3, 0, 3);
        due("the empty heap", x.orders(3), 1);
        x.lay(3, 0, 0);
        due("one cube", x.orders(3), 1);
        x.lay(3, 0, 1);
        x.lay(3, 1, 0);
        x.lay(3, 0, 0);
        due("three free cubes on one", x.orders(3), 6);
        due("an empty place", x.orders(0), BAD);
        for (int place : Bench.NO_PLACES) {
            due("place " + place, x.orders(place), BAD);
        }
    }

    private static void many() {
        promise = 20;
        CornerHeaps x = new CornerHeaps();
        int[][] wants = {{1, 1, 1, 2}, {1, 1, 4, 5}, {4, 1, 1, 5}, {1, 4, 4, 70}, {4, 1, 4, 70}, {2, 2, 2, 20},
            {2, 3, 4, 490}, {3, 3, 3, 980}, {4, 4, 3, 24696}, {4, 3, 4, 24696}, {3, 4, 4, 24696}, {2, 4, 4, 1764}};
        for (int[] want : wants) {
            due("many " + want[0] + want[1] + want[2], x.many(want[0], want[1], want[2]), want[3]);
        }
        for (int[] box : Bench.NO_BOXES) {
            due("no box", x.many(box[0], box[1], box[2]), BAD);
        }
    }

    private static void minor() {
        promise = 21;
        CornerHeaps x = new CornerHeaps();
        for (int k = 0; k <= 4; k++) {
            due("minor(4, 1, 1, " + k + ")", x.minor(4, 1, 1, k), k + 1);
        }
        due("minor(3, 3, 3, 1)", x.minor(3, 3, 3, 1), 20);
        due("minor(3, 3, 3, 2)", x.minor(3, 3, 3, 2), 175);
        due("minor(3, 3, 3, 3)", x.minor(3, 3, 3, 3), 980);
        due("minor(4, 4, 3, 4)", x.minor(4, 4, 3, 4), 24696);
        due("k above a", x.minor(2, 4, 4, 3), BAD);
        due("k -1", x.minor(2, 2, 2, -1), BAD);
        due("k MAX", x.minor(2, 2, 2, MAX), BAD);
        for (int[] box : Bench.NO_BOXES) {
            due("no box", x.minor(box[0], box[1], box[2], 0), BAD);
        }
    }

    private static void series() {
        promise = 22;
        CornerHeaps x = new CornerHeaps();
        int[] wants = {1, 1, 3, 3, 4, 3, 3, 1, 1, 0, 0};
        for (int v = 0; v < wants.length; v++) {
            due("series(2, 2, 2, " + v + ")", x.series(2, 2, 2, v), wants[v]);
        }
        due("series(4, 4, 3, 24)", x.series(4, 4, 3, 24), 1458);
        due("series(4, 4, 3, 48)", x.series(4, 4, 3, 48), 1);
        due("series(4, 4, 3, 49)", x.series(4, 4, 3, 49), 0);
        due("v MAX", x.series(4, 4, 3, MAX), 0);
        due("v -1", x.series(2, 2, 2, -1), BAD);
        due("v MIN", x.series(2, 2, 2, MIN), BAD);
        for (int[] box : Bench.NO_BOXES) {
            due("no box", x.series(box[0], box[1], box[2], 0), BAD);
        }
    }

    private static void weighed() {
        promise = 23;
        CornerHeaps x = new CornerHeaps();
        int[] byTwo = {20, 775, 97, 165, 57};
        int[] byNine = {980, 184801626, 95601053, 628790359, 408268};
        for (int kind = 0; kind <= 4; kind++) {
            due("weighed(2, 2, 2, " + kind + ", 1)", x.weighed(2, 2, 2, kind, 1), 20);
            due("weighed(2, 2, 2, " + kind + ", 2)", x.weighed(2, 2, 2, kind, 2), byTwo[kind]);
            due("weighed(3, 3, 3, " + kind + ", 9)", x.weighed(3, 3, 3, kind, 9), byNine[kind]);
        }
        due("kind -1", x.weighed(2, 2, 2, -1, 2), BAD);
        due("kind 5", x.weighed(2, 2, 2, 5, 2), BAD);
        due("q 0", x.weighed(2, 2, 2, 1, 0), BAD);
        due("q 10", x.weighed(2, 2, 2, 1, 10), BAD);
        due("q MIN", x.weighed(2, 2, 2, 1, MIN), BAD);
        for (int[] box : Bench.NO_BOXES) {
            due("no box", x.weighed(box[0], box[1], box[2], 0, 1), BAD);
        }
    }

    private static void symmetric() {
        promise = 24;
        CornerHeaps x = new CornerHeaps();
        int[] wants = {980, 112, 20, 16, 0, 0, 0, 0, 0, 0, 0, 0, 0, 0, 0, 0};
        for (int set = 0; set <= 15; set++) {
            due("symmetric(3, 3, 3, " + set + ")", x.symmetric(3, 3, 3, set), wants[set]);
        }
        due("symmetric(2, 2, 2, 1)", x.symmetric(2, 2, 2, 1), 10);
        due("symmetric(2, 2, 3, 1)", x.symmetric(2, 2, 3, 1), 20);
        due("symmetric(2, 2, 3, 2)", x.symmetric(2, 2, 3, 2), 0);
        due("symmetric(2, 2, 3, 4)", x.symmetric(2, 2, 3, 4), 6);
        due("symmetric(1, 2, 2, 1)", x.symmetric(1, 2, 2, 1), 0);
        due("symmetric(1, 1, 2, 8)", x.symmetric(1, 1, 2, 8), 1);
        due("more than 1000 heaps", x.symmetric(2, 4, 4, 0), FULL);
        due("more than 1000 heaps", x.symmetric(4, 4, 3, 15), FULL);
        due("set -1", x.symmetric(2, 2, 2, -1), BAD);
        due("set 16", x.symmetric(2, 2, 2, 16), BAD);
        due("a wrong set of a large box", x.symmetric(4, 4, 3, 16), BAD);
        for (int[] box : Bench.NO_BOXES) {
            due("no box", x.symmetric(box[0], box[1], box[2], 0), BAD);
        }
    }

    private static void between() {
        promise = 25;
        CornerHeaps x = Bench.with("x222r0000;", "x222r2222;", "x222r2010;", "x223r0000;");
        due("all", x.between(0, 1), 20);
        due("the wrong way round", x.between(1, 0), 0);
        due("one heap", x.between(2, 2), 1);
        due("up to a heap", x.between(0, 2), 5);
        due("from a heap", x.between(2, 1), 11);
        due("other boxes", x.between(0, 3), STATE);
        x.drop(3);
        due("an empty place", x.between(0, 3), BAD);
        due("an empty place", x.between(3, 0), BAD);
        for (int place : Bench.NO_PLACES) {
            due("x " + place, x.between(place, 0), BAD);
            due("y " + place, x.between(0, place), BAD);
        }
        CornerHeaps y = new CornerHeaps();
        y.take(4, 4, 3, 0, 0);
        y.turn(0, 2, 1);
        due("all of a large box", y.between(0, 1), 24696);
    }

    private static void way() {
        promise = 26;
        CornerHeaps x = Bench.with("x222r0000;", "x222r2222;", "x222r2010;", "x222r2100;");
        due("from none to all", x.way(0, 1, 0), 8);
        due("back", x.way(1, 0, 0), 8);
        due("to itself", x.way(2, 2, 0), 0);
        due("to itself, where all is forbidden", x.way(2, 2, 1), 0);
        due("two cubes", x.way(2, 3, 0), 2);
        due("two cubes by volume 2 or 4", x.way(2, 3, 2), NONE);
        due("two cubes by volume 2", x.way(2, 3, 4), 2);
        due("two cubes by volume 4", x.way(2, 3, 3), 2);
        due("all divisible", x.way(2, 3, 1), NONE);
        due("9 is not on the way", x.way(0, 1, 9), 8);
        due("8 is the end", x.way(0, 1, 8), 8);
        due("0 is divisible", x.way(2, 0, 9), 3);
        x.lay(3, 0, 1);
        due("one cube needs no other heap", x.way(3, 3, 1), 0);
        x.take(2, 2, 2, 1, 2);
        due("one cube where all is forbidden", x.way(0, 2, 1), 1);
        due("m -1", x.way(0, 1, -1), BAD);
        due("m 10", x.way(0, 1, 10), BAD);
        for (int place : Bench.NO_PLACES) {
            due("x " + place, x.way(place, 0, 0), BAD);
            due("y " + place, x.way(0, place, 0), BAD);
        }
        x.take(2, 2, 3, 0, 3);
        due("other boxes", x.way(0, 3, 0), STATE);
        due("other boxes and m", x.way(0, 3, 10), BAD);
        x.take(2, 3, 4, 0, 3);
        due("other boxes, one large", x.way(0, 3, 0), STATE);
        due("more than 200 heaps", x.way(3, 3, 0), FULL);
        x.drop(3);
        due("an empty place", x.way(0, 3, 0), BAD);
    }

    private static void image() {
        promise = 27;
        CornerHeaps x = Bench.with("x222r2010;", "x111r1;");
        due("two heaps", x.image(0), 2);
        due("it is no act", x.count(2), 2);
        x.drop(0);
        due("one heap", x.image(1), 1);
        due("k -1", x.image(-1), BAD);
        due("k 2", x.image(2), BAD);
        due("k MIN", x.image(MIN), BAD);
        due("the first image", x.restore(0), 2);
        due("the second image", x.restore(1), 1);
        x.drop(1);
        due("in place of an earlier one", x.image(0), 0);
        due("the new one", x.restore(0), 0);
        due("the other one stays", x.restore(1), 1);
        dueHeap("the other one stays", x, 1, "x111r1;");
    }

    private static void restore() {
        promise = 28;
        CornerHeaps x = Bench.with("x222r2010;");
        due("no image", x.restore(0), STATE);
        due("no image", x.restore(1), STATE);
        due("acts stay", x.count(2), 1);
        x.image(1);
        due("the other image", x.restore(0), STATE);
        x.lay(0, 0, 1);
        x.take(1, 1, 1, 1, 3);
        Bench.write(x, "x1");
        due("restore", x.restore(1), 1);
        dueHeap("restore", x, 0, "x222r2010;");
        due("the other place is empty", x.drop(3), BAD);
        due("nothing can be undone", x.undo(), STATE);
        due("no acts", x.count(2), 0);
        due("the tape stays", x.count(3), 2);
        x.off(0, 0, 0);
        due("an act afterwards", x.count(2), 1);
        due("the image stays kept", x.restore(1), 1);
        dueHeap("the image stays kept", x, 0, "x222r2010;");
        due("k -1", x.restore(-1), BAD);
        due("k 2", x.restore(2), BAD);
        due("k MAX", x.restore(MAX), BAD);
    }

    private static void count() {
        promise = 29;
        CornerHeaps x = Bench.with("x222r2010;", "x111r1;", "x123r31;");
        Bench.write(x, "abc");
        int[] wants = {3, 8, 3, 3};
        for (int what = 0; what <= 3; what++) {
            due("count " + what, x.count(what), wants[what]);
        }
        due("what -1", x.count(-1), BAD);
        due("what 4", x.count(4), BAD);
        due("what MIN", x.count(MIN), BAD);
        x.undo();
        due("heaps after undo", x.count(0), 2);
        due("volumes after undo", x.count(1), 4);
        due("acts after undo", x.count(2), 2);
    }
}
