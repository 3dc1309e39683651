/** Boundary cases of the tape, the texts, the drawers and what is kept: promises 1 to 5, 37, 44 to 47. */
public final class TapeBoundsTest {
    private static final int NO = Bounds.NO;
    private static final int NONE = Bounds.NONE;
    private static final Bounds bounds = new Bounds("TapeBoundsTest");

    public static void main(String[] args) {
        newObject();
        feed();
        write();
        texts();
        faults();
        putAndTake();
        letter();
        drawn();
        count();
        keep();
        undo();
        bounds.end();
    }

    private static void newObject() {
        drawersAreEmpty();
        objectsShareNothing();
        constantNone();
    }

    private static void drawersAreEmpty() {
        bounds.promise(1, "DRAWERS are empty");
        CubicSigns x = new CubicSigns();
        bounds.due(0, x, "count", 0);
        for (int d = 0; d < 8; d++) {
            bounds.due(NO, x, "told", d, 0);
            bounds.isEmpty(x, d);
        }
        bounds.due(0, x, "count", 1);
        bounds.due(0, x, "count", 2);
    }

    private static void objectsShareNothing() {
        bounds.terms("All memory is the drawers' own");
        CubicSigns x = new CubicSigns();
        CubicSigns y = new CubicSigns();
        x.put(0, 1, 2);
        Bounds.feed(x, "3");
        x.keep();
        for (int what = 0; what < 3; what++) {
            bounds.due(0, y, "count", what);
        }
        bounds.due(NO, new CubicSigns(), "told", 0, 0);
    }

    private static void constantNone() {
        bounds.terms("NONE = -1");
        bounds.same("NONE", CubicSigns.NONE, -1);
    }

    // ---- promise 2

    private static void feed() {
        feedComesBehind();
        feedHighestFirst();
        feedFull();
        feedFullStays();
        feedBehindAnEmptied();
    }

    private static void feedComesBehind() {
        bounds.promise(2, "Twenty bytes come behind the tape: how many it has");
        CubicSigns x = new CubicSigns();
        // nineteen blanks and 1; 2, 3, 4, w ..
        bounds.due(20, x, "feed", 0x20202020, 0x20202020, 0x20202020, 0x20202020, 0x20202031);
        bounds.due(40, x, "feed", 0x32333477, 0, 0, 0, 0);
        bounds.due(0, x, "write", 0, 24);
        bounds.holds(x, 0, 0, 1234);
    }

    private static void feedHighestFirst() {
        bounds.promise(2, "the highest of each int first");
        CubicSigns x = new CubicSigns();
        bounds.due(20, x, "feed", 0x2B313233, 0x342D3536, 0x37387720, 0x20202020, 0x202020FF);
        bounds.due(-1019, x, "write", 0, 20);
        bounds.due(20, x, "feed", 0x2B313233, 0x342D3536, 0x37387720, 0x20202020, 0x202020FF);
        bounds.due(0, x, "write", 0, 19);
        bounds.holds(x, 0, 1234, -5678);
        // a byte of 128 and more is no byte below 0
        bounds.due(20, x, "feed", 0xFFFFFFFF, 0, 0, 0, 0);
        bounds.due(-1000, x, "write", 0, 1);
        bounds.due(20, x, "feed", 0xB1000000, 0, 0, 0, 0);
        bounds.due(-1000, x, "write", 0, 1);
    }

    private static void feedFull() {
        bounds.promise(2, "NONE if that would be more than 80");
        CubicSigns x = new CubicSigns();
        bounds.due(20, x, "feed", 1, 2, 3, 4, 5);
        bounds.due(40, x, "feed", 1, 2, 3, 4, 5);
        bounds.due(60, x, "feed", 1, 2, 3, 4, 5);
        bounds.due(80, x, "feed", 1, 2, 3, 4, 5);
        bounds.due(NONE, x, "feed", 1, 2, 3, 4, 5);
        bounds.due(NONE, x, "feed", 0, 0, 0, 0, 0);
    }

    private static void feedFullStays() {
        bounds.promise(2, "a refused feed leaves the tape");
        CubicSigns x = new CubicSigns();
        Bounds.feed(x, "12-34w              " + " ".repeat(60));
        bounds.due(80, x, "count", 1);
        bounds.due(NONE, x, "feed", 0x39393939, 0x39393939, 0x39393939, 0x39393939, 0x39393939);
        bounds.due(80, x, "count", 1);
        bounds.due(0, x, "write", 0, 40);
        bounds.holds(x, 0, 12, -34);
    }

    private static void feedBehindAnEmptied() {
        bounds.promise(2, "the tape begins anew behind a write");
        CubicSigns x = new CubicSigns();
        Bounds.feed(x, " ".repeat(80));
        bounds.due(-1001, x, "write", 0, 1);
        bounds.due(20, x, "feed", 0x37777777, 0, 0, 0, 0);
        bounds.due(0, x, "write", 0, 2);
        bounds.holds(x, 0, 0, 7);
    }

    // ---- promise 3

    private static void write() {
        writeFewAndMany();
        writeNoSuchDrawer();
        writeNotSoMany();
        writeRefusedKeepsTape();
        writeEmptiesTape();
        writeFaultLeavesDrawer();
        writeOverOne();
    }

    private static void writeFewAndMany() {
        bounds.promise(3, "first n bytes (1 to 40)");
        CubicSigns x = new CubicSigns();
        Bounds.feed(x, "5" + " ".repeat(38) + "z" + "z".repeat(40));
        bounds.outside(NONE, 1, 40, 1, x, "write", 0, 1);
        bounds.due(NONE, x, "write", 0, -1);
        bounds.due(0, x, "write", 0, 1);
        bounds.holds(x, 0, 5, 0);
        Bounds.feed(x, "7" + " ".repeat(38) + "z" + "z".repeat(40));
        bounds.due(0, x, "write", 0, 39);
        Bounds.feed(x, "7" + " ".repeat(38) + "z" + "z".repeat(40));
        bounds.due(-1039, x, "write", 0, 40);
    }

    private static void writeNoSuchDrawer() {
        bounds.promise(3, "NONE: no such ones");
        CubicSigns x = new CubicSigns();
        Bounds.feed(x, "5");
        bounds.noSuchDrawer(NONE, 0, x, "write", 0, 1);
        bounds.due(0, x, "count", 0);
        bounds.due(0, x, "write", 7, 1);
        bounds.holds(x, 7, 5, 0);
    }

    private static void writeNotSoMany() {
        bounds.promise(3, "NONE: it has not so many");
        CubicSigns x = new CubicSigns();
        bounds.due(NONE, x, "write", 0, 1);
        Bounds.feed(x, "5                   ");
        bounds.due(NONE, x, "write", 0, 21);
        bounds.due(NONE, x, "write", 0, 40);
        bounds.due(0, x, "write", 0, 20);
        bounds.due(NONE, x, "write", 0, 1);
        Bounds.feed(x, "5                                       ");
        bounds.due(0, x, "write", 0, 40);
    }

    private static void writeRefusedKeepsTape() {
        bounds.promise(3, "NONE: .. (the tape stays)");
        CubicSigns x = Bounds.with(8, 9);
        Bounds.feed(x, "34w");
        bounds.due(NONE, x, "write", 8, 3);
        bounds.due(NONE, x, "write", 0, 0);
        bounds.due(NONE, x, "write", 0, 21);
        bounds.due(NONE, x, "write", 0, 41);
        bounds.due(20, x, "count", 1);
        bounds.holds(x, 0, 8, 9);
        bounds.due(0, x, "write", 0, 3);
        bounds.holds(x, 0, 0, 34);
    }

    private static void writeEmptiesTape() {
        bounds.promise(3, "the tape's first n bytes (..; empty then)");
        CubicSigns x = new CubicSigns();
        Bounds.feed(x, "3" + "z".repeat(79));
        bounds.due(0, x, "write", 0, 1);
        bounds.due(0, x, "count", 1);
        Bounds.feed(x, "z".repeat(80));
        bounds.due(-1000, x, "write", 0, 1);
        bounds.due(0, x, "count", 1);
    }

    private static void writeFaultLeavesDrawer() {
        bounds.promise(3, "a FAULT: .. (what was there stays)");
        CubicSigns x = Bounds.with(8, 9);
        Bounds.feed(x, "3+a");
        bounds.due(-1002, x, "write", 0, 3);
        bounds.holds(x, 0, 8, 9);
        Bounds.feed(x, "3+4w+5");
        bounds.due(-3004, x, "write", 1, 6);
        bounds.due(1, x, "count", 0);
        bounds.isEmpty(x, 1);
    }

    private static void writeOverOne() {
        bounds.promise(3, "comes into DRAWER d: 0");
        bounds.reads("0", 0, 0);
        CubicSigns x = Bounds.with(8, 9, 8, 9);
        Bounds.feed(x, "-1");
        bounds.due(0, x, "write", 1, 2);
        bounds.holds(x, 0, 8, 9);
        // the sort that is not told is 0, whatever an earlier text told
        bounds.holds(x, 1, -1, 0);
        String[] texts = {"5+6w", "7", "8w", "9-w", "w", "4"};
        int[][] parts = {{5, 6}, {7, 0}, {0, 8}, {9, -1}, {0, 1}, {4, 0}};
        for (int i = 0; i < texts.length; i++) {
            Bounds.feed(x, texts[i]);
            bounds.due(0, x, "write", 0, texts[i].length());
            bounds.holds(x, 0, parts[i][0], parts[i][1]);
        }
    }

    // ---- texts

    private static void texts() {
        textSigns();
        textFirstSignMayLack();
        textDigits();
        textOmegaAlone();
        textEitherSortFirst();
        textBlanksAnywhere();
        textOfFortyBytes();
    }

    private static void textSigns() {
        bounds.terms("a sign (+ or -");
        bounds.reads("+3", 3, 0);
        bounds.reads("-3", -3, 0);
        bounds.reads("+3w", 0, 3);
        bounds.reads("-3w", 0, -3);
        bounds.reads("-0-0w", 0, 0);
        bounds.faults("*3", 1, 0);
        bounds.faults(",3", 1, 0);
        bounds.faults("++3", 1, 1);
        bounds.faults("--3", 1, 1);
    }

    private static void textFirstSignMayLack() {
        bounds.terms("of the first one perhaps none");
        bounds.reads("3-4w", 3, -4);
        bounds.faults("3 4w", 1, 2);
        bounds.faults("4w3", 1, 2);
        bounds.faults("w3", 1, 1);
    }

    private static void textDigits() {
        bounds.terms("digits (1 or more)");
        bounds.reads("1", 1, 0);
        bounds.reads("9999-9999w", 9999, -9999);
        bounds.reads("-9999+9999w", -9999, 9999);
        bounds.reads("0123456789".substring(6), 6789, 0);
        bounds.reads("0000", 0, 0);
        bounds.reads("0001w", 0, 1);
        bounds.faults("-", 1, 1);
        // just beside the digits
        bounds.faults("/", 1, 0);
        bounds.faults(":", 1, 0);
        bounds.faults("3/", 1, 1);
        bounds.faults("3:", 1, 1);
    }

    private static void textOmegaAlone() {
        bounds.terms("or w alone");
        bounds.reads("w", 0, 1);
        bounds.reads("+w", 0, 1);
        bounds.reads("-w", 0, -1);
        bounds.reads("3-w", 3, -1);
        bounds.reads("0w", 0, 0);
        bounds.faults("W", 1, 0);
        bounds.faults("v", 1, 0);
        bounds.faults("x", 1, 0);
    }

    private static void textEitherSortFirst() {
        bounds.terms("each sort (without w, with w) once at most, one at least");
        bounds.reads("12w+34", 34, 12);
        bounds.reads("34+12w", 34, 12);
        bounds.reads("w-1", -1, 1);
        bounds.faults(" ", 1, 1);
        bounds.faults("1+2+3w", 3, 1);
    }

    private static void textBlanksAnywhere() {
        bounds.terms("Blanks (32) are where one likes");
        bounds.reads(" 3", 3, 0);
        bounds.reads("3 ", 3, 0);
        bounds.reads("  -  3  w  +  4  ", 4, -3);
        bounds.reads("- w", 0, -1);
        bounds.reads("3 +w", 3, 1);
        bounds.reads("3+ w", 3, 1);
        bounds.faults("\t3", 1, 0);
        bounds.faults("3\n", 1, 1);
        bounds.faults("3\0", 1, 1);
        bounds.faults("!3", 1, 0);
        bounds.faults("\u00A03", 1, 0);
    }

    private static void textOfFortyBytes() {
        bounds.terms("A TEXT .. 1 to 40 bytes");
        bounds.reads("-9999" + " ".repeat(29) + "-9999w", -9999, -9999);
        bounds.reads(" ".repeat(39) + "w", 0, 1);
        bounds.reads(" ".repeat(39) + "8", 8, 0);
    }

    // ---- faults

    private static void faults() {
        faultBlankAmongDigits();
        faultFirstFromTheLeft();
        faultAtTheEnd();
        faultOfOneByteTheLeast();
        faultFifthDigit();
        faultNoughtsCount();
        faultSortTwice();
        faultSortTwiceAtItsSign();
        faultSortTwiceBehindThoseWithin();
        faultNumbersAndPlaces();
    }

    private static void faultBlankAmongDigits() {
        bounds.terms("Blanks .. not among digits");
        bounds.faults("1 2", 1, 2);
        bounds.faults("1  2w", 1, 3);
        bounds.faults("w+1 2", 1, 4);
        bounds.faults("w - 12 3", 1, 7);
    }

    private static void faultFirstFromTheLeft() {
        bounds.terms("the first byte from the left that is wrong");
        bounds.faults("a1 2", 1, 0);
        bounds.faults("1a12345", 1, 1);
        bounds.faults("12345a", 2, 4);
        bounds.faults("1+2+12345w", 3, 1);
        bounds.faults("1+2a", 3, 1);
        bounds.faults("1+2w+3+4a", 3, 4);
        bounds.faults("1+2wa+3", 1, 4);
    }

    private static void faultAtTheEnd() {
        bounds.terms("(the end: at the length)");
        bounds.faults(" ", 1, 1);
        bounds.faults("   ", 1, 3);
        bounds.faults("+", 1, 1);
        bounds.faults("3-", 1, 2);
        bounds.faults("3w+  ", 1, 5);
        bounds.faults(" ".repeat(40), 1, 40);
        bounds.faults("w" + " ".repeat(38) + "+", 1, 40);
        // what lies behind the first n bytes is not looked at
        CubicSigns x = new CubicSigns();
        Bounds.feed(x, "3-4w");
        bounds.due(-1002, x, "write", 0, 2);
    }

    private static void faultOfOneByteTheLeast() {
        bounds.terms("of one byte the least");
        // no sign ahead (1), and a sort told already (3)
        bounds.faults("3 4", 1, 2);
        bounds.faults("w w", 1, 2);
        bounds.faults("ww", 1, 1);
        bounds.faults("3w4w", 1, 2);
        // can't stand there (1), and a fifth digit (2)
        bounds.faults("1234 5", 1, 5);
    }

    private static void faultFifthDigit() {
        bounds.terms("2 a fifth digit of a PART");
        bounds.reads("1234", 1234, 0);
        bounds.faults("12345", 2, 4);
        bounds.faults("12345w", 2, 4);
        bounds.faults("-12345", 2, 5);
        bounds.faults("1234+12345w", 2, 9);
        bounds.faults("123456789", 2, 4);
        // each part has four of its own
        bounds.reads("1234+5678w", 1234, 5678);
    }

    private static void faultNoughtsCount() {
        bounds.terms("(noughts ahead count)");
        bounds.reads("0001", 1, 0);
        bounds.faults("00001", 2, 4);
        bounds.faults("00000", 2, 4);
        bounds.faults("w-00001", 2, 6);
    }

    private static void faultSortTwice() {
        bounds.terms("3 a sort told already");
        bounds.faults("3+4", 3, 1);
        bounds.faults("3+3", 3, 1);
        bounds.faults("0+0", 3, 1);
        bounds.faults("w-w", 3, 1);
        bounds.faults("0w+0w", 3, 2);
        bounds.faults("3w+w", 3, 2);
        bounds.faults("3+4w-5", 3, 4);
        bounds.faults("3+4w-5w", 3, 4);
    }

    private static void faultSortTwiceAtItsSign() {
        bounds.terms("at the PART's first byte (its sign, if there is one");
        bounds.faults("3  +  4", 3, 3);
        bounds.faults("  3w  -  4  w  ", 3, 6);
        bounds.faults("w" + " ".repeat(37) + "+w", 3, 38);
    }

    private static void faultSortTwiceBehindThoseWithin() {
        bounds.terms("told when it ends, behind the FAULTS within it");
        bounds.faults("3+12345", 2, 6);
        bounds.faults("3w-12345w", 2, 7);
        bounds.faults("3+", 1, 2);
        bounds.faults("3+4w+", 1, 5);
        bounds.faults("3+4w+a", 1, 5);
        // the digits alone do not tell the sort
        bounds.reads("3+4  w", 3, 4);
        bounds.faults("4w+3  w", 3, 2);
    }

    private static void faultNumbersAndPlaces() {
        bounds.promise(3, "-1000 times its number, less its place");
        bounds.faults("z", 1, 0);
        bounds.faults(" ".repeat(39) + "z", 1, 39);
        bounds.faults(" ".repeat(35) + "12345", 2, 39);
        bounds.faults("1" + " ".repeat(37) + "+2", 3, 38);
    }

    // ---- promises 4 and 5

    private static void putAndTake() {
        putBounds();
        putNoSuchDrawer();
        putRefusedLeaves();
        takeWasOrNot();
        takeNoSuchOne();
    }

    private static void putBounds() {
        bounds.promise(4, "false: no such ones (NUMBERS: a and b -9999 to 9999)");
        CubicSigns x = new CubicSigns();
        bounds.outside(0, -9999, 9999, 1, x, "put", 0, 0, 0);
        bounds.outside(0, -9999, 9999, 2, x, "put", 0, 0, 0);
        bounds.due(0, x, "count", 0);
        int[] edges = {-9999, 9999};
        for (int a : edges) {
            for (int b : edges) {
                bounds.due(1, x, "put", 0, a, b);
                bounds.holds(x, 0, a, b);
            }
        }
    }

    private static void putNoSuchDrawer() {
        bounds.promise(4, "false: no such ones (DRAWERS 0 to 7)");
        CubicSigns x = new CubicSigns();
        bounds.noSuchDrawer(0, 0, x, "put", 0, 1, 1);
        bounds.due(0, x, "count", 0);
        bounds.due(1, x, "put", 0, 1, 1);
        bounds.due(1, x, "put", 7, 1, 1);
        bounds.due(129, x, "count", 0);
    }

    private static void putRefusedLeaves() {
        bounds.promise(4, "a refused put leaves what was there");
        CubicSigns x = Bounds.with(3, 4);
        bounds.due(0, x, "put", 0, 10000, 0);
        bounds.due(0, x, "put", 0, 0, -10000);
        bounds.holds(x, 0, 3, 4);
        bounds.due(1, x, "put", 0, 0, 0);
        bounds.holds(x, 0, 0, 0);
    }

    private static void takeWasOrNot() {
        bounds.promise(5, "DRAWER d is empty: whether it was not (1, 0)");
        CubicSigns x = Bounds.with(0, 0);
        x.put(7, 1, 1);
        bounds.due(1, x, "take", 0);
        bounds.due(0, x, "take", 0);
        bounds.due(NO, x, "told", 0, 0);
        bounds.holds(x, 7, 1, 1);
        bounds.due(1, x, "take", 7);
        bounds.due(0, x, "count", 0);
    }

    private static void takeNoSuchOne() {
        bounds.promise(5, "NONE: no such one");
        CubicSigns x = Bounds.with(1, 1);
        bounds.noSuchDrawer(NONE, 0, x, "take", 0);
        bounds.due(1, x, "count", 0);
    }

    // ---- promise 37

    private static void letter() {
        letterParts();
        letterNought();
        letterSigns();
        letterOmegaAlone();
        letterEmpty();
        letterNotSoMany();
        letterNoSuchOnes();
    }

    private static void spells(String text, int a, int b) {
        CubicSigns x = Bounds.with(a, b);
        bounds.due(text.length(), x, "letter", 0, NONE);
        for (int k = 0; k < text.length(); k++) {
            bounds.due(text.charAt(k), x, "letter", 0, k);
        }
        bounds.due(-3, x, "letter", 0, text.length());
    }

    private static void letterParts() {
        bounds.promise(37, "a (if it is not 0), then b (if it is not 0) and w");
        spells("7", 7, 0);
        spells("7w", 0, 7);
        spells("3+7w", 3, 7);
        spells("1000+1001w", 1000, 1001);
        spells("10+100w", 10, 100);
        spells("-9999-9999w", -9999, -9999);
    }

    private static void letterNought() {
        bounds.promise(37, "0: 0");
        spells("0", 0, 0);
    }

    private static void letterSigns() {
        bounds.promise(37, "a sign ahead of what is below 0 and of a b above 0 behind an a");
        spells("-5", -5, 0);
        spells("-5w", 0, -5);
        spells("5w", 0, 5);
        spells("-5+5w", -5, 5);
        spells("5-5w", 5, -5);
    }

    private static void letterOmegaAlone() {
        bounds.promise(37, "w alone for 1 w");
        spells("w", 0, 1);
        spells("-w", 0, -1);
        spells("1+w", 1, 1);
        spells("-1-w", -1, -1);
        spells("1", 1, 0);
        spells("10w", 0, 10);
    }

    private static void letterEmpty() {
        bounds.promise(37, "-2: empty");
        CubicSigns x = Bounds.with(1, 1);
        bounds.due(-2, x, "letter", 1, 0);
        bounds.due(-2, x, "letter", 1, NONE);
        bounds.due(-2, x, "letter", 1, 99);
    }

    private static void letterNotSoMany() {
        bounds.promise(37, "-3: not so many");
        CubicSigns x = Bounds.with(-9999, -9999, 0, 0);
        bounds.due('w', x, "letter", 0, 10);
        bounds.due(-3, x, "letter", 0, 11);
        bounds.due(-3, x, "letter", 1, 1);
        bounds.due(-3, x, "letter", 1, Integer.MAX_VALUE);
    }

    private static void letterNoSuchOnes() {
        bounds.promise(37, "NONE: no such ones");
        CubicSigns x = Bounds.with(1, 1);
        bounds.noSuchDrawer(NONE, 0, x, "letter", 0, 0);
        bounds.due(NONE, x, "letter", 0, -2);
        bounds.due(NONE, x, "letter", 0, Integer.MIN_VALUE);
        bounds.due(NONE, x, "letter", 1, -2);
    }

    // ---- promise 44

    private static void drawn() {
        drawnFar();
        drawnNoSuchDrawer();
        drawnLowestBits();
        drawnModulo();
        drawnReachesBothEnds();
        drawnOverOne();
    }

    private static int next(int x) {
        return (int) ((25173L * x + 13849) % 65536);
    }

    private static void drawsAsDue(int seed, int start, int far) {
        CubicSigns x = new CubicSigns();
        int first = next(start);
        int second = next(first);
        bounds.due(second, x, "drawn", 3, seed, far);
        bounds.holds(x, 3, first / 4 % (2 * far + 1) - far, second / 4 % (2 * far + 1) - far);
    }

    private static void drawnFar() {
        bounds.promise(44, "less far (1 to 1000)");
        CubicSigns x = Bounds.with(1, 1);
        bounds.outside(NONE, 1, 1000, 2, x, "drawn", 0, 5, 1);
        bounds.holds(x, 0, 1, 1);
        drawsAsDue(5, 5, 1);
        drawsAsDue(5, 5, 1000);
    }

    private static void drawnNoSuchDrawer() {
        bounds.promise(44, "NONE: no such ones");
        CubicSigns x = new CubicSigns();
        bounds.noSuchDrawer(NONE, 0, x, "drawn", 0, 5, 10);
        bounds.due(0, x, "count", 0);
    }

    private static void drawnLowestBits() {
        bounds.promise(44, "X is the lowest 16 bits of the seed at first");
        drawsAsDue(0, 0, 9);
        drawsAsDue(65535, 65535, 9);
        drawsAsDue(65536, 0, 9);
        drawsAsDue(-1, 65535, 9);
        drawsAsDue(-65536, 0, 9);
        drawsAsDue(Integer.MAX_VALUE, 65535, 9);
        drawsAsDue(Integer.MIN_VALUE, 0, 9);
        drawsAsDue(Integer.MIN_VALUE + 32768, 32768, 9);
    }

    private static void drawnModulo() {
        bounds.promise(44, "X = (25173 X + 13849) modulo 65536");
        for (int seed = 0; seed < 65536; seed += 771) {
            drawsAsDue(seed, seed, 1000);
        }
    }

    private static void drawnReachesBothEnds() {
        bounds.promise(44, "a, then b, each a DRAW of (twice far and 1), less far");
        boolean[] seen = new boolean[7];
        for (int seed = 0; seed < 100; seed++) {
            CubicSigns x = new CubicSigns();
            x.drawn(0, seed, 3);
            int a = x.told(0, 0);
            bounds.same("a of seed " + seed + " is near", a >= -3 && a <= 3 ? 1 : 0, 1);
            if (a >= -3 && a <= 3) {
                seen[a + 3] = true;
            }
        }
        for (int a = -3; a <= 3; a++) {
            bounds.same("some seed draws " + a, seen[a + 3] ? 1 : 0, 1);
        }
    }

    private static void drawnOverOne() {
        bounds.promise(44, "Into DRAWER d");
        CubicSigns x = Bounds.with(5000, 5000, 7, 7);
        x.drawn(0, 1, 1);
        bounds.same("a is drawn", Math.abs(x.told(0, 0)) <= 1 ? 1 : 0, 1);
        bounds.same("b is drawn", Math.abs(x.told(0, 1)) <= 1 ? 1 : 0, 1);
        bounds.holds(x, 1, 7, 7);
    }

    // ---- promises 45 to 47

    private static void count() {
        countBits();
        countTape();
        countStates();
        countOthers();
    }

    private static void countBits() {
        bounds.promise(45, "0 DRAWERS that are not empty (bits)");
        CubicSigns x = new CubicSigns();
        bounds.due(0, x, "count", 0);
        for (int d = 0; d < 8; d++) {
            x.put(d, 0, 0);
            bounds.due((2 << d) - 1, x, "count", 0);
        }
        x.take(0);
        bounds.due(254, x, "count", 0);
        x.take(7);
        bounds.due(126, x, "count", 0);
    }

    private static void countTape() {
        bounds.promise(45, "1 bytes of the tape");
        CubicSigns x = new CubicSigns();
        for (int many = 0; many <= 80; many += 20) {
            bounds.due(many, x, "count", 1);
            x.feed(1, 2, 3, 4, 5);
        }
        bounds.due(80, x, "count", 1);
        x.write(0, 1);
        bounds.due(0, x, "count", 1);
    }

    private static void countStates() {
        bounds.promise(45, "2 states that are kept");
        CubicSigns x = new CubicSigns();
        for (int many = 0; many <= 12; many++) {
            bounds.due(many, x, "count", 2);
            x.keep();
        }
        bounds.due(12, x, "count", 2);
        x.undo();
        bounds.due(11, x, "count", 2);
    }

    private static void countOthers() {
        bounds.promise(45, "NONE for others");
        CubicSigns x = Bounds.with(1, 1);
        bounds.outside(NONE, 0, 2, 0, x, "count", 0);
    }

    private static void keep() {
        keepUpToTwelve();
        keepFullChangesNothing();
        keepLeavesDrawers();
        keepAgainBehindUndo();
    }

    private static void keepUpToTwelve() {
        bounds.promise(46, "NONE: 12 are");
        CubicSigns x = new CubicSigns();
        for (int many = 1; many <= 12; many++) {
            bounds.due(many, x, "keep");
        }
        bounds.due(NONE, x, "keep");
        bounds.due(NONE, x, "keep");
    }

    private static void keepFullChangesNothing() {
        bounds.promise(46, "a refused keep leaves the states");
        CubicSigns x = new CubicSigns();
        for (int i = 0; i < 12; i++) {
            x.put(0, i, -i);
            x.keep();
        }
        x.put(0, 99, 99);
        bounds.due(NONE, x, "keep");
        bounds.holds(x, 0, 99, 99);
        for (int i = 11; i >= 0; i--) {
            bounds.due(i, x, "undo");
            bounds.holds(x, 0, i, -i);
        }
    }

    private static void keepLeavesDrawers() {
        bounds.promise(46, "DRAWERS are kept");
        CubicSigns x = Bounds.with(1, 2, 3, 4, 5, 6, 7, 8, -1, -2, -3, -4, -5, -6, -7, -8);
        bounds.due(1, x, "keep");
        for (int d = 0; d < 8; d++) {
            x.put(d, 50 + d, 60 + d);
        }
        bounds.due(2, x, "keep");
        for (int d = 0; d < 8; d++) {
            bounds.holds(x, d, 50 + d, 60 + d);
            x.take(d);
        }
        bounds.due(1, x, "undo");
        for (int d = 0; d < 8; d++) {
            bounds.holds(x, d, 50 + d, 60 + d);
        }
        bounds.due(0, x, "undo");
        for (int d = 0; d < 4; d++) {
            bounds.holds(x, d, 2 * d + 1, 2 * d + 2);
            bounds.holds(x, d + 4, -2 * d - 1, -2 * d - 2);
        }
    }

    private static void keepAgainBehindUndo() {
        bounds.promise(46, "how many states are, once one is gone");
        CubicSigns x = new CubicSigns();
        for (int i = 0; i < 12; i++) {
            x.keep();
        }
        bounds.due(11, x, "undo");
        x.put(3, 4, 5);
        bounds.due(12, x, "keep");
        bounds.due(NONE, x, "keep");
        x.take(3);
        bounds.due(11, x, "undo");
        bounds.holds(x, 3, 4, 5);
    }

    private static void undo() {
        undoNone();
        undoNoneChangesNothing();
        undoEmptiesAndFills();
        undoLeavesTheTape();
    }

    private static void undoNone() {
        bounds.promise(47, "NONE: there is none");
        CubicSigns x = new CubicSigns();
        bounds.due(NONE, x, "undo");
        x.keep();
        bounds.due(0, x, "undo");
        bounds.due(NONE, x, "undo");
        bounds.due(0, x, "count", 2);
    }

    private static void undoNoneChangesNothing() {
        bounds.promise(47, "a refused undo leaves the DRAWERS");
        CubicSigns x = new CubicSigns();
        x.keep();
        x.put(2, 3, 4);
        bounds.due(0, x, "undo");
        x.put(2, 5, 6);
        bounds.due(NONE, x, "undo");
        bounds.holds(x, 2, 5, 6);
        bounds.due(4, x, "count", 0);
    }

    private static void undoEmptiesAndFills() {
        bounds.promise(47, "DRAWERS are as they were kept last (that state is gone)");
        CubicSigns x = Bounds.with(1, 2);
        x.keep();
        x.take(0);
        x.put(1, 3, 4);
        bounds.due(0, x, "undo");
        bounds.holds(x, 0, 1, 2);
        bounds.due(NO, x, "told", 1, 0);
        bounds.due(1, x, "count", 0);
    }

    private static void undoLeavesTheTape() {
        bounds.promise(47, "DRAWERS (the tape is none of them)");
        CubicSigns x = new CubicSigns();
        x.keep();
        Bounds.feed(x, "6w");
        bounds.due(0, x, "undo");
        bounds.due(20, x, "count", 1);
        x.keep();
        bounds.due(0, x, "write", 0, 2);
        bounds.due(0, x, "undo");
        bounds.due(0, x, "count", 1);
    }
}
