import java.util.Arrays;
import java.util.Map;
import java.util.TreeMap;
import java.util.TreeSet;

/**
 * What a refused call leaves as it was, and which reason comes first: each call of the document
 * with every refusal that it names, and with every two of them that can come together.
 */
public final class RefusedTest {
    private static final int NO = Bounds.NO;
    private static final int NONE = Bounds.NONE;
    private static final long NO_LONG = Long.MIN_VALUE;
    private static final Bounds bounds = new Bounds("RefusedTest");
    private static final Map<String, TreeSet<Long>> seen = new TreeMap<>();

    /** What the drawers of a furnished object hold, and the names that the rows below use. */
    private static final int PRIME = 0;
    private static final int NOUGHT = 1;
    private static final int UNIT = 2;
    private static final int THREE = 3;
    private static final int WIDE = 4;
    private static final int EDGE = 5;
    private static final int TWO = 6;
    private static final int EMPTY = 7;
    private static final int[] HELD = {2, 3, 0, 0, 1, 1, 3, 0, 45, 0, 9999, -1, 2, 0};

    public static void main(String[] args) {
        store();
        reckoned();
        classesByOne();
        classesByMore();
        partingsAndSteps();
        signs();
        wholePrimes();
        floatsAndRings();
        kept();
        everyRefusalWasSeen();
        lastOfAllCalls();
        bounds.end();
    }

    /** Seven drawers full, a tape with a text, and two states kept. */
    private static CubicSigns furnished() {
        CubicSigns x = Bounds.with(11, 12, 13, 14);
        x.keep();
        x.put(7, 15, 16);
        x.take(0);
        x.keep();
        x.take(7);
        for (int d = 0; d < 7; d++) {
            x.put(d, HELD[2 * d], HELD[2 * d + 1]);
        }
        Bounds.feed(x, "8-7w");
        return x;
    }

    private static long[] state(CubicSigns x) {
        long[] state = new long[19];
        for (int d = 0; d < 8; d++) {
            state[2 * d] = x.told(d, 0);
            state[2 * d + 1] = x.told(d, 1);
        }
        for (int what = 0; what < 3; what++) {
            state[16 + what] = x.count(what);
        }
        return state;
    }

    /** A furnished object refuses the call so, and is as it was, what is kept and the tape too. */
    private static void refused(long want, String call, int... arguments) {
        seen.computeIfAbsent(call, c -> new TreeSet<>()).add(want);
        CubicSigns x = furnished();
        bounds.due(want, x, call, arguments);
        String behind = " behind " + call + Arrays.toString(arguments);
        bounds.same("drawers and counts" + behind, Arrays.equals(state(x), state(furnished())) ? 1 : 0, 1);
        bounds.same("the tape" + behind, x.write(7, 4), 0);
        bounds.same("the tape's a" + behind, x.told(7, 0), 8);
        bounds.same("the tape's b" + behind, x.told(7, 1), -7);
        bounds.same("the last state" + behind, x.undo(), 1);
        bounds.same("the last state's drawers" + behind, x.count(0), 130);
        bounds.same("the last state's a" + behind, x.told(7, 0), 15);
        bounds.same("the first state" + behind, x.undo(), 0);
        bounds.same("the first state's drawers" + behind, x.count(0), 3);
        bounds.same("the first state's b" + behind, x.told(1, 1), 14);
        bounds.same("no state is left" + behind, x.undo(), NONE);
    }

    private static void leavesAll(int promise) {
        bounds.promise(promise, "A call that is refused changes nothing");
    }

    private static void first(int promise, String reasons) {
        bounds.promise(promise, "Of several reasons NONE comes first, then -2, and so on (" + reasons + ")");
    }

    // ---- promises 2 to 6

    private static void store() {
        writeRefused();
        faultChangesTheTapeAlone();
        fullTapeRefuses();
        putRefused();
        takeRefused();
        toldRefused();
    }

    private static void writeRefused() {
        leavesAll(3);
        refused(NONE, "write", 8, 4);
        refused(NONE, "write", 0, 0);
        refused(NONE, "write", 0, 21);
        refused(NONE, "write", 0, 41);
    }

    private static void putRefused() {
        leavesAll(4);
        refused(0, "put", 8, 1, 1);
        refused(0, "put", 0, 10000, 1);
        refused(0, "put", 0, 1, -10000);
    }

    private static void takeRefused() {
        leavesAll(5);
        refused(NONE, "take", 8);
    }

    private static void toldRefused() {
        leavesAll(6);
        refused(NO, "told", EMPTY, 0);
        refused(NO, "told", 8, 0);
        refused(NO, "told", PRIME, 8);
        refused(NO, "told", EMPTY, 8);
    }

    private static void faultChangesTheTapeAlone() {
        bounds.promise(3, "A call that is refused changes nothing but the tape, where it is told");
        CubicSigns x = furnished();
        bounds.due(-1004, x, "write", 0, 5);
        long[] want = state(furnished());
        want[17] = 0;
        bounds.same("the tape is empty, all else stays", Arrays.equals(state(x), want) ? 1 : 0, 1);
        bounds.due(1, x, "undo");
        bounds.holds(x, 7, 15, 16);
    }

    private static void fullTapeRefuses() {
        leavesAll(2);
        CubicSigns x = furnished();
        x.feed(1, 2, 3, 4, 5);
        x.feed(1, 2, 3, 4, 5);
        x.feed(1, 2, 3, 4, 5);
        long[] ahead = state(x);
        bounds.due(NONE, x, "feed", 1, 2, 3, 4, 5);
        bounds.same("nothing is changed", Arrays.equals(state(x), ahead) ? 1 : 0, 1);
        bounds.due(0, x, "write", 7, 4);
        bounds.holds(x, 7, 8, -7);
    }

    // ---- promises 7 to 12

    private static void reckoned() {
        workRefused();
        changeRefused();
        areRefused();
        writtenRefused();
        divisorsRefused();
        signByRefused();
    }

    private static void workRefused() {
        leavesAll(7);
        for (int f = 0; f < 8; f++) {
            refused(-2, "work", EMPTY, PRIME, f, 0);
            refused(-3, "work", PRIME, NOUGHT, f, 3);
            refused(-4, "work", EDGE, UNIT, f, 2);
        }
        refused(-3, "work", NOUGHT, NOUGHT, 0, 5);
        first(7, "NONE, -2");
        refused(NONE, "work", EMPTY, PRIME, 0, 6);
        refused(NONE, "work", PRIME, EMPTY, 8, 0);
        refused(NONE, "work", 8, EMPTY, 0, 0);
        refused(NONE, "work", EMPTY, -1, 0, 0);
        first(7, "NONE, -3");
        refused(NONE, "work", PRIME, NOUGHT, 8, 3);
        refused(NONE, "work", 8, NOUGHT, 0, 4);
        first(7, "NONE, -4");
        refused(NONE, "work", EDGE, UNIT, -1, 2);
        first(7, "-2, -3");
        refused(-2, "work", EMPTY, NOUGHT, 0, 3);
        refused(-2, "work", EMPTY, NOUGHT, 0, 4);
        refused(-2, "work", NOUGHT, EMPTY, 0, 5);
    }

    private static void areRefused() {
        leavesAll(9);
        refused(-2, "are", EMPTY, PRIME, 0);
        first(9, "NONE, -2");
        refused(NONE, "are", EMPTY, PRIME, 3);
        refused(NONE, "are", EMPTY, 8, 0);
        refused(NONE, "are", -1, EMPTY, 0);
    }

    private static void writtenRefused() {
        leavesAll(10);
        refused(NO, "written", NOUGHT, NONE, 0);
        refused(NO, "written", EMPTY, NONE, 0);
        refused(NO, "written", PRIME, 1, 0);
        refused(NO, "written", PRIME, -2, 0);
    }

    private static void divisorsRefused() {
        leavesAll(11);
        refused(NO_LONG, "divisors", NOUGHT, 0);
        refused(NO_LONG, "divisors", EMPTY, 0);
        refused(NO_LONG, "divisors", PRIME, 4);
    }

    private static void changeRefused() {
        leavesAll(8);
        refused(-2, "change", EMPTY, 0);
        refused(-4, "change", EDGE, 0);
        refused(-4, "change", EDGE, 1);
        refused(-4, "change", EDGE, 3);
        first(8, "NONE, -2");
        refused(NONE, "change", EMPTY, 8);
        first(8, "NONE, -4");
        refused(NONE, "change", EDGE, 8);
    }

    private static void signByRefused() {
        leavesAll(12);
        refused(-2, "signBy", EMPTY, PRIME, 0);
        refused(-3, "signBy", PRIME, NOUGHT, 0);
        refused(-4, "signBy", PRIME, TWO, 1);
        first(12, "NONE, -2");
        refused(NONE, "signBy", EMPTY, PRIME, -1);
        refused(NONE, "signBy", EMPTY, 8, 0);
        first(12, "NONE, -3");
        refused(NONE, "signBy", PRIME, NOUGHT, -1);
        refused(NONE, "signBy", 8, UNIT, 0);
        first(12, "-2, -3");
        refused(-2, "signBy", EMPTY, NOUGHT, 0);
        refused(-2, "signBy", EMPTY, THREE, 0);
        first(12, "-2, -4");
        refused(-2, "signBy", EMPTY, TWO, 1);
        first(12, "-3, -4");
        refused(-3, "signBy", PRIME, UNIT, 99);
        refused(-3, "signBy", PRIME, THREE, 99);
    }

    // ---- promises 13 to 16, 19 to 22

    private static void classesByOne() {
        residueRefused();
        powerRefused();
        inverseRefused();
        classesRefused();
        spreadRefused();
        orderRefused();
        greatestRefused();
        leastRefused();
    }

    private static void residueRefused() {
        leavesAll(13);
        refused(-2, "residue", PRIME, EMPTY, 0);
        refused(-3, "residue", PRIME, NOUGHT, 0);
        first(13, "NONE, -2, -3");
        refused(NONE, "residue", EMPTY, PRIME, 2);
        refused(NONE, "residue", EMPTY, 8, 0);
        refused(NONE, "residue", PRIME, NOUGHT, 2);
        refused(-2, "residue", EMPTY, NOUGHT, 0);
    }

    private static void powerRefused() {
        leavesAll(14);
        refused(-2, "power", PRIME, 1, EMPTY, 0);
        refused(-3, "power", PRIME, 1, NOUGHT, 0);
        first(14, "NONE, -2, -3");
        refused(NONE, "power", EMPTY, -1, PRIME, 0);
        refused(NONE, "power", EMPTY, 1, PRIME, 2);
        refused(NONE, "power", EMPTY, 1, 8, 0);
        refused(NONE, "power", PRIME, 1000000001, NOUGHT, 0);
        refused(-2, "power", EMPTY, 1, NOUGHT, 0);
    }

    private static void inverseRefused() {
        leavesAll(15);
        refused(-2, "inverse", PRIME, EMPTY, 0);
        refused(-3, "inverse", PRIME, NOUGHT, 0);
        refused(-4, "inverse", NOUGHT, PRIME, 0);
        first(15, "NONE, -2, -3, -4");
        refused(NONE, "inverse", EMPTY, PRIME, 2);
        refused(NONE, "inverse", PRIME, NOUGHT, 2);
        refused(NONE, "inverse", NOUGHT, PRIME, 2);
        refused(-2, "inverse", EMPTY, NOUGHT, 0);
        refused(-3, "inverse", NOUGHT, NOUGHT, 0);
    }

    private static void classesRefused() {
        leavesAll(16);
        refused(-2, "classes", EMPTY, 0);
        refused(-3, "classes", NOUGHT, 0);
        refused(-3, "classes", WIDE, 1);
        refused(-3, "classes", WIDE, 2);
        first(16, "NONE, -2, -3");
        refused(NONE, "classes", EMPTY, 3);
        refused(NONE, "classes", NOUGHT, 3);
        refused(NONE, "classes", WIDE, -1);
    }

    private static void spreadRefused() {
        leavesAll(19);
        refused(-2, "spread", EMPTY, 0);
        refused(-3, "spread", WIDE, 0);
        first(19, "NONE, -2, -3");
        refused(NONE, "spread", EMPTY, 2001);
        refused(NONE, "spread", WIDE, 2001);
        refused(NONE, "spread", NOUGHT, -1);
    }

    private static void orderRefused() {
        leavesAll(20);
        refused(-2, "order", PRIME, EMPTY);
        refused(-3, "order", PRIME, NOUGHT);
        refused(-4, "order", PRIME, PRIME);
        first(20, "NONE, -2, -3, -4");
        refused(NONE, "order", EMPTY, 8);
        refused(NONE, "order", 8, NOUGHT);
        refused(-2, "order", EMPTY, NOUGHT);
        refused(-2, "order", EMPTY, WIDE);
        refused(-3, "order", WIDE, WIDE);
        refused(-3, "order", NOUGHT, NOUGHT);
    }

    private static void greatestRefused() {
        leavesAll(21);
        refused(-2, "greatest", EMPTY, 0);
        refused(-3, "greatest", WIDE, 0);
        first(21, "NONE, -2, -3");
        refused(NONE, "greatest", EMPTY, 2);
        refused(NONE, "greatest", NOUGHT, 2);
        refused(NONE, "greatest", WIDE, -1);
    }

    private static void leastRefused() {
        leavesAll(22);
        refused(NO, "least", PRIME, EMPTY, 0);
        refused(NO, "least", PRIME, NOUGHT, 0);
        first(22, "NONE, looked at first");
        refused(NONE, "least", EMPTY, PRIME, 2);
        refused(NONE, "least", EMPTY, 8, 0);
        refused(NONE, "least", 8, NOUGHT, 0);
        refused(NONE, "least", PRIME, NOUGHT, -1);
    }

    // ---- promises 17, 18 and 23

    private static void classesByMore() {
        rootRefused();
        linearRefused();
        bothRefused();
    }

    private static void rootRefused() {
        leavesAll(17);
        refused(-2, "root", EMPTY, PRIME, NONE, 0);
        refused(-3, "root", PRIME, WIDE, NONE, 0);
        refused(-4, "root", UNIT, PRIME, 9, 0);
        first(17, "NONE, -2");
        refused(NONE, "root", EMPTY, PRIME, -2, 0);
        refused(NONE, "root", EMPTY, PRIME, 0, 2);
        refused(NONE, "root", EMPTY, 8, NONE, 0);
        first(17, "NONE, -3");
        refused(NONE, "root", PRIME, NOUGHT, -2, 0);
        refused(NONE, "root", PRIME, WIDE, 0, 2);
        first(17, "NONE, -4");
        refused(NONE, "root", UNIT, PRIME, 9, 2);
        first(17, "-2, -3");
        refused(-2, "root", EMPTY, NOUGHT, NONE, 0);
        refused(-2, "root", EMPTY, WIDE, 0, 0);
        first(17, "-2, -4");
        refused(-2, "root", EMPTY, PRIME, 99, 0);
        first(17, "-3, -4");
        refused(-3, "root", PRIME, NOUGHT, 99, 0);
        refused(-3, "root", PRIME, WIDE, 9999, 0);
    }

    private static void linearRefused() {
        leavesAll(18);
        refused(-2, "linear", PRIME, PRIME, EMPTY, NONE, 0);
        refused(-3, "linear", PRIME, PRIME, WIDE, NONE, 0);
        refused(-4, "linear", UNIT, UNIT, PRIME, 1, 0);
        first(18, "NONE, -2");
        refused(NONE, "linear", EMPTY, PRIME, PRIME, -2, 0);
        refused(NONE, "linear", PRIME, EMPTY, PRIME, 0, 2);
        refused(NONE, "linear", EMPTY, PRIME, 8, NONE, 0);
        refused(NONE, "linear", PRIME, 8, EMPTY, NONE, 0);
        first(18, "NONE, -3, -4");
        refused(NONE, "linear", PRIME, PRIME, NOUGHT, 0, 2);
        refused(NONE, "linear", UNIT, UNIT, PRIME, 1, 2);
        first(18, "-2, -3");
        refused(-2, "linear", EMPTY, PRIME, NOUGHT, NONE, 0);
        refused(-2, "linear", PRIME, EMPTY, WIDE, NONE, 0);
        first(18, "-2, -4");
        refused(-2, "linear", PRIME, EMPTY, PRIME, 99, 0);
        first(18, "-3, -4");
        refused(-3, "linear", PRIME, PRIME, NOUGHT, 99, 0);
        refused(-3, "linear", PRIME, PRIME, WIDE, 9999, 0);
    }

    private static void bothRefused() {
        leavesAll(23);
        refused(-2, "both", EMPTY, PRIME, PRIME, TWO, 0);
        refused(-3, "both", PRIME, PRIME, PRIME, NOUGHT, 0);
        refused(-3, "both", PRIME, TWO, PRIME, TWO, 0);
        refused(-4, "both", PRIME, EDGE, PRIME, TWO, 0);
        first(23, "NONE, -2");
        refused(NONE, "both", EMPTY, PRIME, PRIME, TWO, 2);
        refused(NONE, "both", EMPTY, 8, PRIME, TWO, 0);
        refused(NONE, "both", PRIME, EMPTY, 8, TWO, 0);
        refused(NONE, "both", PRIME, PRIME, EMPTY, 8, 0);
        first(23, "NONE, -3, -4");
        refused(NONE, "both", PRIME, NOUGHT, PRIME, TWO, 2);
        refused(NONE, "both", PRIME, EDGE, PRIME, TWO, 2);
        first(23, "-2, -3");
        refused(-2, "both", EMPTY, NOUGHT, PRIME, TWO, 0);
        refused(-2, "both", PRIME, NOUGHT, EMPTY, TWO, 0);
        refused(-2, "both", PRIME, NOUGHT, PRIME, EMPTY, 0);
        first(23, "-2, -4");
        refused(-2, "both", EMPTY, EDGE, PRIME, TWO, 0);
        refused(-2, "both", PRIME, EDGE, EMPTY, TWO, 0);
        first(23, "-3, -4");
        refused(-3, "both", PRIME, EDGE, PRIME, EDGE, 0);
    }

    // ---- promises 24 to 27

    private static void partingsAndSteps() {
        partingRefused();
        partingsRefused();
        stepsRefused();
        directRefused();
    }

    private static void partingRefused() {
        leavesAll(24);
        refused(NO, "parting", PRIME, EMPTY, NONE, 0);
        refused(NO, "parting", PRIME, NOUGHT, 0, 0);
        refused(NO, "parting", PRIME, TWO, 99, 0);
        refused(NO, "parting", PRIME, TWO, 0, 2);
    }

    private static void partingsRefused() {
        leavesAll(25);
        refused(-2, "partings", PRIME, EMPTY);
        first(25, "NONE, -2");
        refused(NONE, "partings", EMPTY, 8);
        refused(NONE, "partings", -1, EMPTY);
    }

    private static void stepsRefused() {
        leavesAll(26);
        refused(-2, "steps", PRIME, EMPTY);
        first(26, "NONE, -2");
        refused(NONE, "steps", EMPTY, 8);
        refused(NONE, "steps", -1, EMPTY);
    }

    private static void directRefused() {
        leavesAll(27);
        refused(-2, "direct", PRIME, EMPTY, 0);
        refused(-3, "direct", PRIME, UNIT, 0);
        first(27, "NONE, -2, -3");
        refused(NONE, "direct", EMPTY, PRIME, 2);
        refused(NONE, "direct", EMPTY, 8, 0);
        refused(NONE, "direct", PRIME, UNIT, -1);
        refused(-2, "direct", EMPTY, UNIT, 0);
        refused(-2, "direct", EMPTY, THREE, 0);
    }

    // ---- promises 28 to 30

    private static void signs() {
        signRefused();
        turnedRefused();
        supplementRefused();
    }

    private static void signRefused() {
        leavesAll(28);
        refused(-2, "sign", PRIME, EMPTY);
        refused(-3, "sign", PRIME, THREE);
        first(28, "NONE, -2, -3");
        refused(NONE, "sign", EMPTY, 8);
        refused(NONE, "sign", 8, EMPTY);
        refused(NONE, "sign", 8, UNIT);
        refused(-2, "sign", EMPTY, NOUGHT);
        refused(-2, "sign", EMPTY, UNIT);
        refused(-2, "sign", EMPTY, THREE);
    }

    private static void turnedRefused() {
        leavesAll(29);
        refused(-2, "turned", PRIME, EMPTY);
        refused(-3, "turned", PRIME, UNIT);
        first(29, "NONE, -2, -3");
        refused(NONE, "turned", EMPTY, 8);
        refused(NONE, "turned", 8, UNIT);
        refused(-2, "turned", UNIT, EMPTY);
        refused(-2, "turned", EMPTY, THREE);
    }

    private static void supplementRefused() {
        leavesAll(30);
        refused(-2, "supplement", EMPTY, 0);
        refused(-3, "supplement", THREE, 0);
        first(30, "NONE, -2, -3");
        refused(NONE, "supplement", EMPTY, 4);
        refused(NONE, "supplement", UNIT, 4);
        refused(NONE, "supplement", NOUGHT, -1);
    }

    // ---- promises 31 to 37

    private static void wholePrimes() {
        primeRefused();
        sumRefused();
        splitRefused();
        thirdsRefused();
        primeAtRefused();
        crowdRefused();
        letterRefused();
    }

    private static void primeRefused() {
        leavesAll(31);
        refused(NO, "prime", 5, 0);
        refused(NO, "prime", 7, 8);
    }

    private static void sumRefused() {
        leavesAll(32);
        refused(NO, "sum", 5, 0);
        refused(NO, "sum", 7, 4);
    }

    private static void splitRefused() {
        leavesAll(33);
        refused(NONE, "split", 5, 0);
        refused(NONE, "split", 7, 8);
    }

    private static void thirdsRefused() {
        leavesAll(34);
        refused(-2, "thirds", 80);
        refused(-3, "thirds", -2);
    }

    private static void primeAtRefused() {
        leavesAll(35);
        refused(NO, "primeAt", 303, 0);
        refused(NO, "primeAt", -2, 0);
        refused(NO, "primeAt", 0, 3);
    }

    private static void crowdRefused() {
        leavesAll(36);
        refused(-2, "crowd", EMPTY, 1, 0);
        first(36, "NONE, -2");
        refused(NONE, "crowd", EMPTY, 0, 0);
        refused(NONE, "crowd", EMPTY, 101, 0);
        refused(NONE, "crowd", EMPTY, 1, 4);
    }

    private static void letterRefused() {
        leavesAll(37);
        refused(-2, "letter", EMPTY, 0);
        refused(-3, "letter", PRIME, 4);
        first(37, "NONE, -2, -3");
        refused(NONE, "letter", EMPTY, -2);
        refused(-2, "letter", EMPTY, 99);
    }

    // ---- promises 38 to 44

    private static void floatsAndRings() {
        lengthRefused();
        middleRefused();
        nearestRefused();
        nearestAlone();
        ringRefused();
        diskRefused();
        ringAtRefused();
        drawnRefused();
    }

    private static void lengthRefused() {
        leavesAll(38);
        refused(-2, "length", EMPTY);
        refused(NONE, "length", 8);
    }

    private static void middleRefused() {
        leavesAll(39);
        refused(NO, "middle", 2);
    }

    private static void nearestRefused() {
        leavesAll(40);
        refused(-2, "nearest", EMPTY, 0);
        first(40, "NONE, -2");
        refused(NONE, "nearest", EMPTY, 2);
    }

    private static void ringRefused() {
        leavesAll(41);
        refused(NONE, "ring", 1000001, 0);
        refused(NONE, "ring", 1, 3);
    }

    private static void diskRefused() {
        leavesAll(42);
        refused(NONE, "disk", 1000001, 0);
        refused(NONE, "disk", 1, 2);
    }

    private static void ringAtRefused() {
        leavesAll(43);
        refused(NO, "ringAt", 1, 6, 0);
        refused(NO, "ringAt", 1000001, 0, 0);
    }

    private static void drawnRefused() {
        leavesAll(44);
        refused(NONE, "drawn", 8, 1, 1);
        refused(NONE, "drawn", 0, 1, 0);
        refused(NONE, "drawn", 0, 1, 1001);
    }

    private static void nearestAlone() {
        first(40, "NONE, -3");
        CubicSigns x = Bounds.with(1, 1);
        bounds.due(-3, x, "nearest", 0, 0);
        bounds.due(NONE, x, "nearest", 0, 2);
        first(40, "-2, -3");
        bounds.due(-2, new CubicSigns(), "nearest", 0, 0);
    }

    // ---- promises 45 to 47

    private static void kept() {
        leavesAll(45);
        refused(NONE, "count", 3);
        leavesAll(46);
        CubicSigns full = furnished();
        for (int i = 0; i < 10; i++) {
            full.keep();
        }
        long[] ahead = state(full);
        bounds.due(NONE, full, "keep");
        bounds.same("nothing is changed", Arrays.equals(state(full), ahead) ? 1 : 0, 1);
        leavesAll(47);
        CubicSigns none = Bounds.with(1, 2);
        Bounds.feed(none, "8-7w");
        long[] before = state(none);
        bounds.due(NONE, none, "undo");
        bounds.same("nothing is changed", Arrays.equals(state(none), before) ? 1 : 0, 1);
    }

    /** The refusals that the document names, call by call; those of full and empty objects stand by themselves above. */
    private static void everyRefusalWasSeen() {
        bounds.terms("A call that is refused (NONE, -2 to -9, Integer.MIN_VALUE, Long.MIN_VALUE, false)");
        String[] none = {"write", "take", "split", "ring", "disk", "drawn", "count"};
        String[] noneAndTwo = {"are", "partings", "steps", "crowd", "length", "nearest"};
        String[] upToThree = {
            "residue", "power", "classes", "spread", "greatest", "direct", "sign", "turned", "supplement", "letter",
        };
        String[] upToFour = {"work", "signBy", "inverse", "root", "linear", "order", "both"};
        String[] noAnswer = {"told", "written", "parting", "prime", "sum", "primeAt", "middle", "ringAt"};
        Map<String, String> want = new TreeMap<>();
        putAll(want, "[-1]", none);
        putAll(want, "[-2, -1]", noneAndTwo);
        putAll(want, "[-3, -2, -1]", upToThree);
        putAll(want, "[-4, -3, -2, -1]", upToFour);
        putAll(want, "[" + NO + "]", noAnswer);
        putAll(want, "[" + NO + ", -1]", "least");
        putAll(want, "[" + NO_LONG + "]", "divisors");
        putAll(want, "[-4, -2, -1]", "change");
        putAll(want, "[-3, -2]", "thirds");
        putAll(want, "[0]", "put");
        Map<String, String> got = new TreeMap<>();
        seen.forEach((call, answers) -> got.put(call, answers.toString()));
        bounds.same("refusals seen: " + got, got.equals(want) ? 1 : 0, 1);
    }

    private static void putAll(Map<String, String> map, String value, String... keys) {
        for (String key : keys) {
            map.put(key, value);
        }
    }

    private static void lastOfAllCalls() {
        bounds.terms("An object is used for at most 512 calls");
        CubicSigns x = new CubicSigns();
        for (int i = 1; i <= 255; i++) {
            x.put(i % 8, i, -i);
            x.count(0);
        }
        x.keep();
        bounds.due(255, x, "told", 7, 0);
    }
}
