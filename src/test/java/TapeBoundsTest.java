/** The boundary cases of the tape, of texts and of their faults (promises 1 to 4), sentence by sentence. */
public final class TapeBoundsTest {
    private static final int BAD = Bench.BAD;
    private static final int FULL = Bench.FULL;
    private static final int STATE = Bench.STATE;
    private static final String[] TEXTS = {"x111r0;", "x222r2110;", "x234r433211;", "x414r4321;", "x333d120310201;",
        "x144d4321;", "x112pnen;", "x222pneen,neen;", "x333penenen,nenene,nnenee;",
        "x434peeennnn,eeennnn,nnnneee,nnnneee;"};

    public static void main(String[] args) {
        newObject();
        emptyTape();
        tapeOf60();
        bytesInRange();
        bytesOutOfRange();
        fullTape();
        noBlanks();
        sidesOfTexts();
        numberOfHeights();
        diagonals();
        lettersOfWords();
        heightsOfWords();
        endsOfWords();
        wordForEachRow();
        firstFault();
        textsThatEndTooEarly();
        bytesThatCannotStand();
        behindTheText();
        sidesOutOfRange();
        boxesTooLarge();
        heightsAboveC();
        heightsAboveEarlierOnes();
        heightsBelowEarlierOnes();
        lettersTooMany();
        lettersTooHigh();
        heapInPlaceOfAnother();
        tapeAfterwards();
        placesOutOfRange();
        codesOfFaults();
        numbersOfFaults();
        noFault();
        laterTexts();
        Checks.finish();
    }

    private static void newObject() {
        Checks.says("Creates an object without heaps and images, with an empty tape.");
        CornerHeaps x = new CornerHeaps();
        for (int what = 0; what <= 3; what++) {
            Checks.due("count(" + what + ")", x.count(what), 0);
        }
        Checks.due("restore(0)", x.restore(0), STATE);
        Checks.due("restore(1)", x.restore(1), STATE);
        Checks.same("the places", Bench.places(x), "|||");
        Checks.due("fault()", x.fault(), 0);
    }

    private static void emptyTape() {
        Checks.says("The tape is a text of at most 60 bytes; it is empty at first.");
        CornerHeaps x = new CornerHeaps();
        Checks.due("count(3)", x.count(3), 0);
        Checks.due("heap of nothing", x.heap(0), -1000100);
        Checks.due("fault of nothing", x.fault(), 1);
    }

    private static void tapeOf60() {
        Checks.says("Returns the new length of the tape");
        CornerHeaps x = new CornerHeaps();
        for (int length = 1; length <= 60; length++) {
            Checks.due("feed of byte " + length, x.feed('x'), length);
            Checks.due("count(3)", x.count(3), length);
        }
    }

    private static void bytesInRange() {
        Checks.says("`letter`: the byte, 0 to 255");
        for (int letter = 0; letter <= 255; letter++) {
            CornerHeaps x = new CornerHeaps();
            Checks.due("feed(" + letter + ")", x.feed(letter), 1);
            Checks.due("heap of byte " + letter, x.heap(0), letter == 'x' ? -1000101 : -1000100);
        }
    }

    private static void bytesOutOfRange() {
        Checks.says("BAD if letter is out of range");
        int[] letters = {-1, 256, -'x', 256 + 'x', 'x' - 256, 'x' + 65536, 1000, Bench.MIN, Bench.MIN + 'x', Bench.MAX};
        for (int letter : letters) {
            Bench.refused("feed(" + letter + ")", BAD, x -> x.feed(letter));
        }
    }

    private static void fullTape() {
        Checks.says("FULL if the tape has 60 bytes");
        CornerHeaps x = new CornerHeaps();
        Bench.write(x, "x111r1;" + "0".repeat(52));
        Checks.due("byte 60", x.feed('0'), 60);
        Checks.due("byte 61", x.feed('0'), FULL);
        Checks.due("byte 61 again", x.feed('x'), FULL);
        Checks.due("a wrong byte", x.feed(256), BAD);
        Checks.due("a wrong byte", x.feed(-1), BAD);
        Checks.due("length", x.count(3), 60);
        Checks.due("the bytes before stay", x.heap(0), -1000107);
        Checks.due("the tape has room then", x.feed('x'), 1);
    }

    private static void noBlanks() {
        Checks.says("Every byte is a token of its own; there are no blanks.");
        char[] blanks = {' ', '\t', '\n', '\r', 0, 160, 255};
        for (String text : TEXTS) {
            for (int at = 0; at <= text.length(); at++) {
                for (char blank : blanks) {
                    Bench.fault(text.substring(0, at) + blank + text.substring(at), at, 1);
                }
            }
        }
    }

    private static void sidesOfTexts() {
        Checks.says("The first three digits are A, B and C.");
        Bench.everyBox((a, b, c) -> {
            Bench.right(Bench.flat(a, b, c, 0), Bench.flat(a, b, c, 0));
            Bench.right(Bench.flat(a, b, c, c), Bench.flat(a, b, c, c));
        });
    }

    private static void numberOfHeights() {
        Checks.says("The heights are A * B digits, in the order told.");
        Bench.everyBox((a, b, c) -> {
            for (String form : new String[] {"r", "d"}) {
                String sides = "x" + a + b + c + form;
                Bench.right(sides + "1".repeat(a * b) + ";", Bench.flat(a, b, c, 1));
                Bench.fault(sides + "1".repeat(a * b - 1) + ";", 4 + a * b, 1);
                Bench.fault(sides + "1".repeat(a * b + 1) + ";", 5 + a * b, 1);
                Bench.fault(sides + ";", 5, 1);
            }
        });
    }

    private static void diagonals() {
        Checks.says("The diagonals d go from 1 - A to B - 1, one after the other;"
                + " diagonal d consists of the heights h(i, i + d), in ascending order of i.");
        Bench.right("x114d3;", "x114r3;");
        Bench.right("x144d4321;", "x144r4321;");
        Bench.right("x414d1234;", "x414r4321;");
        Bench.right("x234d241313;", "x234r433211;");
        Bench.right("x324d120423;", "x324r432210;");
        Bench.right("x434d120310420312;", "x434r432321210100;");
        Bench.right("x344d241431420312;", "x344r443243212110;");
        Bench.right("x443d1213103210320312;", "x443r3332322121101100;");
    }

    private static void lettersOfWords() {
        Checks.says("The word of row i consists of B letters e and C letters n.");
        Bench.everyBox((a, b, c) -> {
            String sides = "x" + a + b + c + "p";
            String word = "n".repeat(c) + "e".repeat(b);
            String others = ("," + word).repeat(a - 1) + ";";
            Bench.right(sides + word + others, Bench.flat(a, b, c, 0));
            Bench.fault(sides + word.substring(1) + others, 4 + b + c, 1);
            Bench.fault(sides + word.substring(0, b + c - 1) + others, 4 + b + c, 1);
            Bench.fault(sides + "n" + word + others, 5 + c, 2);
            Bench.fault(sides + word + "e" + others, 5 + b + c, 2);
        });
    }

    private static void heightsOfWords() {
        Checks.says("It begins at the height C; each n goes down by 1;"
                + " the letter e number j (from 0) tells that h(i, j) is the height at that moment.");
        for (int c = 1; c <= 4; c++) {
            for (int height = 0; height <= c; height++) {
                Bench.right("x11" + c + "p" + "n".repeat(c - height) + "e" + "n".repeat(height) + ";",
                        "x11" + c + "r" + height + ";");
            }
        }
        Bench.right("x144penenenen;", "x144r4321;");
        Bench.right("x144pnenenene;", "x144r3210;");
        Bench.right("x144peennnnee;", "x144r4400;");
        Bench.right("x244peeeennnn,eeeennnn;", "x244r44444444;");
        Bench.right("x244peeeennnn,nnnneeee;", "x244r44440000;");
        Bench.right("x323penenn,nneen,nnnee;", "x323r321100;");
    }

    private static void endsOfWords() {
        Checks.says("(So it ends at the height 0.)");
        Bench.fault("x112pe;", 6, 1);
        Bench.fault("x112pen;", 7, 1);
        Bench.right("x112penn;", "x112r2;");
        Bench.fault("x212pen,en;", 7, 1);
        Bench.fault("x212penn,en;", 11, 1);
        Bench.right("x212penn,nne;", "x212r20;");
        Bench.fault("x144peeeennn;", 12, 1);
    }

    private static void wordForEachRow() {
        Checks.says("paths, one word for each row");
        Bench.fault("x112p;", 5, 1);
        Bench.fault("x112pnen,;", 8, 1);
        Bench.fault("x112pnen,nen;", 8, 1);
        Bench.fault("x212pnen;", 8, 1);
        Bench.fault("x212pnennen;", 8, 2);
        Bench.fault("x212pnen,;", 9, 1);
        Bench.fault("x212pnen,,nen;", 9, 1);
        Bench.fault("x212pnen,nen,;", 12, 1);
        Bench.fault("x212p,nen,nen;", 5, 1);
        Bench.fault("x421pnee,nee,nee;", 16, 1);
        Bench.right("x421pnee,nee,nee,nee;", "x421r00000000;");
        Bench.fault("x421pnee,nee,nee,nee,nee;", 20, 1);
    }

    private static void firstFault() {
        Checks.says("The text is read from left to right, up to the first token with a fault.");
        Bench.fault("y5", 0, 1);
        Bench.fault("x5y", 1, 2);
        Bench.fault("xy5", 1, 1);
        Bench.fault("x222r3x", 5, 2);
        Bench.fault("x222rx3", 5, 1);
        Bench.fault("x222r0100", 6, 2);
        Bench.fault("x222r012;;", 6, 2);
        Bench.fault("x222r2;9", 6, 1);
        Bench.fault("x444q", 3, 2);
        Bench.fault("x112pee;;", 6, 2);
        Bench.fault("x112p;ee", 5, 1);
    }

    private static void textsThatEndTooEarly() {
        Checks.says("The position of the fault is the index of this byte,"
                + " or the number of bytes if the text ends too early.");
        for (String text : TEXTS) {
            for (int length = 0; length < text.length(); length++) {
                Bench.fault(text.substring(0, length), length, 1);
            }
        }
    }

    private static void bytesThatCannotStand() {
        Checks.says("1: the byte cannot stand at its place, or the text ends too early;");
        for (String text : TEXTS) {
            for (int at = 0; at < text.length(); at++) {
                String sort = sortOf(text.charAt(at), text.charAt(4) == 'p');
                for (int letter = 0; letter <= 255; letter++) {
                    if (sort.indexOf(letter) < 0) {
                        Bench.fault(text.substring(0, at) + (char) letter + text.substring(at + 1), at, 1);
                    }
                }
            }
        }
    }

    /** All bytes of the sort of a right one; letters may stand behind a whole word, but are too many there. */
    private static String sortOf(char sign, boolean words) {
        if (Character.isDigit(sign)) {
            return "0123456789";
        }
        if (sign == 'r' || sign == 'd' || sign == 'p') {
            return "rdp";
        }
        if (sign == 'e' || sign == 'n') {
            return "en";
        }
        return sign == 'x' || !words ? String.valueOf(sign) : sign + "en";
    }

    private static void behindTheText() {
        Checks.says("1: the byte cannot stand at its place");
        for (String text : TEXTS) {
            for (int letter = 0; letter <= 255; letter++) {
                Bench.fault(text + (char) letter, text.length(), 1);
            }
            Bench.fault(text + text, text.length(), 1);
            Bench.fault(text + "0".repeat(60), text.length(), 1);
        }
    }

    private static void sidesOutOfRange() {
        Checks.says("A, B or C is not 1 to 4");
        for (int digit = 0; digit <= 9; digit++) {
            boolean side = digit >= 1 && digit <= 4;
            Bench.fault("x" + digit, side ? 2 : 1, side ? 1 : 2);
            Bench.fault("x1" + digit, side ? 3 : 2, side ? 1 : 2);
            Bench.fault("x11" + digit, side ? 4 : 3, side ? 1 : 2);
            Bench.fault("x4" + digit, side ? 3 : 2, side ? 1 : 2);
        }
    }

    private static void boxesTooLarge() {
        Checks.says("with C, A * B * C is above 48");
        Bench.fault("x44", 3, 1);
        Bench.fault("x444", 3, 2);
        Bench.fault("x444r" + "0".repeat(16) + ";", 3, 2);
        Bench.fault("x443", 4, 1);
        Bench.fault("x434", 4, 1);
        Bench.fault("x344", 4, 1);
        Bench.right(Bench.flat(4, 4, 3, 3), Bench.flat(4, 4, 3, 3));
        Bench.right(Bench.flat(4, 3, 4, 4), Bench.flat(4, 3, 4, 4));
        Bench.right(Bench.flat(3, 4, 4, 4), Bench.flat(3, 4, 4, 4));
    }

    private static void heightsAboveC() {
        Checks.says("a height is above C");
        for (int c = 1; c <= 4; c++) {
            for (int height = 0; height <= 9; height++) {
                for (String form : new String[] {"r", "d"}) {
                    Bench.fault("x11" + c + form + height, height > c ? 5 : 6, height > c ? 2 : 1);
                    String twice = "x22" + c + form + c + c;
                    Bench.fault(twice + height, height > c ? 7 : 8, height > c ? 2 : 1);
                }
            }
        }
    }

    private static void heightsAboveEarlierOnes() {
        Checks.says("above a height that has been told already for i - 1 or j - 1");
        for (int told = 0; told <= 4; told++) {
            for (int height = 0; height <= 4; height++) {
                int position = height > told ? 6 : 7;
                int number = height > told ? 2 : 1;
                Bench.fault("x124r" + told + height, position, number);
                Bench.fault("x214r" + told + height, position, number);
                Bench.fault("x124d" + told + height, position, number);
            }
        }
        Bench.fault("x224r4222", 9, 1);
        Bench.fault("x224r4223", 8, 2);
        Bench.fault("x224r4323", 8, 2);
        Bench.fault("x224r4233", 8, 2);
        Bench.fault("x224d243", 7, 2);
        Bench.fault("x224d242", 8, 1);
        // A later row may well begin above the end of the row before.
        Bench.right("x224r4020;", "x224r4020;");
    }

    private static void heightsBelowEarlierOnes() {
        Checks.says("below one that has been told already for i + 1 or j + 1");
        for (int told = 0; told <= 4; told++) {
            for (int height = 0; height <= 4; height++) {
                int position = height < told ? 6 : 7;
                int number = height < told ? 2 : 1;
                Bench.fault("x214d" + told + height, position, number);
            }
        }
        Bench.fault("x224d2421", 8, 2);
        Bench.fault("x224d2422", 9, 1);
        Bench.fault("x224d2425", 8, 2);
        Bench.fault("x434d120310420302", 17, 1);
        Bench.fault("x434d1203103", 12, 1);
        Bench.fault("x434d1203102", 11, 2);
        Bench.fault("x434d1203104203", 15, 1);
        Bench.fault("x434d1203104201", 14, 2);
    }

    private static void lettersTooMany() {
        Checks.says("an e or n of which the word has all already (B or C of them)");
        Bench.fault("x112pee", 6, 2);
        Bench.fault("x112pnee", 7, 2);
        Bench.fault("x112pnnn", 7, 2);
        Bench.fault("x112pennn", 8, 2);
        Bench.fault("x112pnene", 8, 2);
        Bench.fault("x112pnenn", 8, 2);
        Bench.fault("x111pnn", 6, 2);
        Bench.fault("x111pnee;", 7, 2);
        Bench.fault("x111penn;", 7, 2);
        Bench.fault("x144peeeee", 9, 2);
        Bench.fault("x144pnnnnn", 9, 2);
        Bench.fault("x144peeeennnn", 13, 1);
        Bench.fault("x144peeeennnnn", 13, 2);
        Bench.fault("x144pnnnneeeee", 13, 2);
        Bench.fault("x212pnen,nnee", 12, 2);
        Bench.fault("x212pnen,nnn", 11, 2);
        Bench.fault("x212pnene,nen;", 8, 2);
        Bench.fault("x212pnenn,nen;", 8, 2);
        Bench.fault("x212pnen,nene;", 12, 2);
        Bench.fault("x212pnen,nenn;", 12, 2);
    }

    private static void lettersTooHigh() {
        Checks.says("an e by which h(i, j) is above h(i - 1, j)");
        for (int upper = 0; upper <= 4; upper++) {
            for (int lower = 0; lower <= 4; lower++) {
                String first = "n".repeat(4 - upper) + "e" + "n".repeat(upper);
                String second = "n".repeat(4 - lower) + "e" + "n".repeat(lower);
                if (lower > upper) {
                    Bench.fault("x214p" + first + "," + second + ";", 15 - lower, 2);
                } else {
                    Bench.right("x214p" + first + "," + second + ";", "x214r" + upper + lower + ";");
                }
            }
        }
        Bench.fault("x222pnene,neen;", 12, 2);
        Bench.right("x222pnene,nene;", "x222r1010;");
        Bench.fault("x312penn,nne,nen;", 14, 2);
        Bench.fault("x312penn,nne,e", 13, 2);
        // An e that is both too many and too high is one fault.
        Bench.fault("x212pnne,ee", 9, 2);
    }

    private static void heapInPlaceOfAnother() {
        Checks.says("Reads a heap from the tape and puts it on a place, in place of what is there.");
        for (int to = 0; to <= 3; to++) {
            CornerHeaps x = Bench.with("x112r0;", "x112r0;", "x112r0;");
            Checks.due("heap(" + to + ")", Bench.read(x, "x222r2110;", to), 4);
            for (int place = 0; place <= 3; place++) {
                String want = place == to ? "x222r2110;" : place == 3 ? "" : "x112r0;";
                Checks.same("place " + place + " after heap(" + to + ")", Bench.shown(x, place), want);
            }
        }
    }

    private static void tapeAfterwards() {
        Checks.says("The tape is empty afterwards, also if there is a fault.");
        String[] texts = {"x111r1;", "", "y", "x5", "x111r2;", "x111r1;;", "x112pnen", "0".repeat(60)};
        for (String text : texts) {
            CornerHeaps x = new CornerHeaps();
            Bench.read(x, text, 1);
            Checks.due("count(3) after " + text, x.count(3), 0);
            Checks.due("heap of nothing after " + text, x.heap(1), -1000100);
            Checks.due("a new text after " + text, Bench.read(x, "x122r21;", 1), 3);
        }
    }

    private static void placesOutOfRange() {
        Checks.says("BAD if to is out of range (the tape stays then)");
        for (int to : Bench.NO_PLACES) {
            Bench.refused("heap(" + to + ")", BAD, x -> x.heap(to));
            CornerHeaps x = new CornerHeaps();
            Bench.write(x, "x122r21;");
            Checks.due("heap(" + to + ")", x.heap(to), BAD);
            Checks.due("count(3)", x.count(3), 8);
            Checks.due("no fault has been found", x.fault(), 0);
            Checks.due("the same text", x.heap(3), 3);
            Bench.write(x, "wrong");
            Checks.due("a wrong text to " + to, x.heap(to), BAD);
            Checks.due("no fault has been found", x.fault(), 0);
        }
    }

    private static void codesOfFaults() {
        Checks.says("if the text has a fault, -1000100 minus the position of the fault"
                + " (everything else stays then, but fault() returns the number of this fault)");
        String[] texts = {"", "y", "x9", "x111r1;;", "x434peeennnn,eeennnn,nnnneee,nnnneee;;"};
        int[] codes = {-1000100, -1000100, -1000101, -1000107, -1000137};
        int[] numbers = {1, 1, 2, 1, 1};
        for (int n = 0; n < texts.length; n++) {
            CornerHeaps x = Bench.busy();
            x.heap(2);
            CornerHeaps twin = Bench.busy();
            twin.heap(2);
            Checks.due("heap of " + texts[n], Bench.read(x, texts[n], 0), codes[n]);
            Checks.due("fault of " + texts[n], x.fault(), numbers[n]);
            Checks.same("all else", allButFault(x), allButFault(twin));
        }
    }

    private static String allButFault(CornerHeaps x) {
        return Bench.remains(x).replaceAll("fault \\d", "");
    }

    private static void numbersOfFaults() {
        Checks.says("Returns the number of the latest fault that heap() has found.");
        CornerHeaps x = new CornerHeaps();
        String[] texts = {"y", "x9", "x9", "y", "", "x111r2", "x111r", "x112pee"};
        int[] numbers = {1, 2, 2, 1, 1, 2, 1, 2};
        for (int n = 0; n < texts.length; n++) {
            Bench.read(x, texts[n], 0);
            Checks.due("fault of " + texts[n], x.fault(), numbers[n]);
            Checks.due("fault again", x.fault(), numbers[n]);
        }
    }

    private static void noFault() {
        Checks.says("Returns 1 or 2; 0 if there was none.");
        CornerHeaps x = new CornerHeaps();
        Checks.due("fault()", x.fault(), 0);
        Bench.write(x, "wrong");
        Checks.due("fault of a text that has not been read", x.fault(), 0);
        x.heap(4);
        x.feed(256);
        x.take(0, 0, 0, 0, 0);
        Checks.due("fault after refused calls", x.fault(), 0);
        CornerHeaps y = Bench.with("x111r1;");
        Checks.due("fault after a right text", y.fault(), 0);
    }

    private static void laterTexts() {
        Checks.says("A later text without a fault does not change it.");
        String[] wrongTexts = {"y", "x9"};
        for (int number = 1; number <= 2; number++) {
            CornerHeaps x = new CornerHeaps();
            x.image(0);
            Bench.read(x, wrongTexts[number - 1], 0);
            for (String text : TEXTS) {
                Bench.read(x, text, 0);
                Checks.due("fault after " + text, x.fault(), number);
            }
            x.undo();
            x.heap(-1);
            x.restore(0);
            Checks.due("fault after other calls", x.fault(), number);
        }
    }
}
