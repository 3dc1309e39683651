/** Boundary cases of lengths, middles, what is nearest, rings and disks: promises 38 to 43. */
public final class RingsBoundsTest {
    private static final int NO = Bounds.NO;
    private static final int NONE = Bounds.NONE;
    private static final int MOST = 1000000;
    private static final Bounds bounds = new Bounds("RingsBoundsTest");

    public static void main(String[] args) {
        length();
        middle();
        nearest();
        ring();
        disk();
        ringAt();
        bounds.end();
    }

    // ---- promise 38

    private static void length() {
        lengthOfNought();
        lengthCut();
        lengthSixTimes();
        lengthBeyondInts();
        lengthEmpty();
        lengthNoSuchOne();
    }

    private static void lengthOfNought() {
        bounds.terms("LENGTH of n: .. (x 0: 0)");
        bounds.due(0, Bounds.with(0, 0), "length", 0);
    }

    private static void lengthCut() {
        bounds.terms("told in thousandths: times 1000, then cut to an int");
        bounds.due(1000, Bounds.with(1, 0), "length", 0);
        bounds.due(1000, Bounds.with(0, -1), "length", 0);
        bounds.due(2000, Bounds.with(2, 0), "length", 0);
        // the roots of 3 and 7 are 1.7320.. and 2.6457..
        bounds.due(1732, Bounds.with(1, -1), "length", 0);
        bounds.due(2645, Bounds.with(2, 3), "length", 0);
    }

    /** The same steps with floats that are written down one by one. */
    private static int sixSteps(float norm) {
        float x0 = norm / 2f;
        float x1 = (x0 + norm / x0) / 2f;
        float x2 = (x1 + norm / x1) / 2f;
        float x3 = (x2 + norm / x2) / 2f;
        float x4 = (x3 + norm / x3) / 2f;
        float x5 = (x4 + norm / x4) / 2f;
        float x6 = (x5 + norm / x5) / 2f;
        return (int) (x6 * 1000f);
    }

    private static void lengthSixTimes() {
        bounds.terms("six times x becomes half of (x and (NORM as a float through x))");
        int[] far = {1, 2, 3, 5, 10, 30, 57, 99, 200, 317, 1000, 3333, 9999};
        for (int a : far) {
            bounds.due(sixSteps((float) (a * a)), Bounds.with(a, 0), "length", 0);
            bounds.due(sixSteps((float) (3 * a * a)), Bounds.with(a, -a), "length", 0);
        }
        // six steps do not lead all the way
        bounds.same("1000 is told as more", Bounds.with(1000, 0).length(0) > 1000000 ? 1 : 0, 1);
    }

    private static void lengthBeyondInts() {
        bounds.promise(38, "cut to an int (beyond the ints)");
        bounds.due(Integer.MAX_VALUE, Bounds.with(9999, -9999), "length", 0);
        bounds.due(Integer.MAX_VALUE, Bounds.with(-9999, 9999), "length", 0);
    }

    private static void lengthEmpty() {
        bounds.promise(38, "-2: empty");
        bounds.due(-2, Bounds.with(1, 0), "length", 1);
        bounds.due(-2, Bounds.with(1, 0), "length", 7);
    }

    private static void lengthNoSuchOne() {
        bounds.promise(38, "NONE: no such one");
        bounds.noSuchDrawer(NONE, 0, Bounds.with(1, 0), "length", 0);
    }

    // ---- promise 39

    private static void middle() {
        middleOfOne();
        middleOfAll();
        middleCut();
        middleAllEmpty();
        middleNoSuchWhat();
    }

    private static void middleOfOne() {
        bounds.terms("MIDDLE of all DRAWERS that are not empty");
        CubicSigns x = new CubicSigns();
        x.put(7, 9999, -9999);
        bounds.due(999900, x, "middle", 0);
        bounds.due(-999900, x, "middle", 1);
        x.put(0, 0, 0);
        bounds.due(499950, x, "middle", 0);
        bounds.due(-499950, x, "middle", 1);
        x.take(7);
        bounds.due(0, x, "middle", 0);
        bounds.due(0, x, "middle", 1);
    }

    private static void middleOfAll() {
        bounds.terms("MIDDLE .. added up one by one from 0, through how many there are");
        CubicSigns x = Bounds.with(1, 9, 2, 9, 3, 9, 4, 9, 5, 9, 6, 9, 7, 9, 9, 9);
        bounds.due(462, x, "middle", 0);
        bounds.due(900, x, "middle", 1);
        CubicSigns most = new CubicSigns();
        for (int d = 0; d < 8; d++) {
            most.put(d, 9999, -9999);
        }
        bounds.due(999900, most, "middle", 0);
        bounds.due(-999900, most, "middle", 1);
    }

    private static void middleCut() {
        bounds.terms("told in hundredths: times 100, cut to an int");
        // 5 through 3 is 1.66.., and below 0 it is cut towards 0
        CubicSigns x = Bounds.with(1, -1, 2, -2, 2, -2);
        bounds.due(166, x, "middle", 0);
        bounds.due(-166, x, "middle", 1);
    }

    private static void middleAllEmpty() {
        bounds.promise(39, "Integer.MIN_VALUE: all are empty");
        CubicSigns x = Bounds.with(1, 1);
        x.take(0);
        bounds.due(NO, x, "middle", 0);
        bounds.due(NO, x, "middle", 1);
        bounds.due(NO, new CubicSigns(), "middle", 0);
    }

    private static void middleNoSuchWhat() {
        bounds.promise(39, "Integer.MIN_VALUE: .. no such what");
        bounds.outside(NO, 0, 1, 0, Bounds.with(1, 1), "middle", 0);
    }

    // ---- promise 40

    private static void nearest() {
        nearestAnother();
        nearestLowestOfLike();
        nearestFarthest();
        nearestNoOther();
        nearestEmpty();
        nearestNoSuchOnes();
    }

    private static void nearestAnother() {
        bounds.promise(40, "(another one; NORM of the difference least)");
        CubicSigns x = Bounds.with(5, 5, 9, 9);
        bounds.due(1, x, "nearest", 0, 0);
        bounds.due(16, x, "nearest", 0, 1);
        bounds.due(0, x, "nearest", 1, 0);
        x.put(7, 5, 5);
        bounds.due(7, x, "nearest", 0, 0);
        bounds.due(0, x, "nearest", 0, 1);
        bounds.due(0, x, "nearest", 7, 0);
        // 2 + w is nearer than 2 - w
        CubicSigns y = Bounds.with(0, 0, 2, -1, 2, 1);
        bounds.due(2, y, "nearest", 0, 0);
        bounds.due(3, y, "nearest", 0, 1);
    }

    private static void nearestLowestOfLike() {
        bounds.promise(40, "of like ones the lowest");
        CubicSigns x = Bounds.with(1, 0, 0, 1, -1, 0, 0, 0, 0, -1, 1, 1);
        bounds.due(0, x, "nearest", 3, 0);
        bounds.due(1, x, "nearest", 3, 1);
        x.take(0);
        bounds.due(1, x, "nearest", 3, 0);
        x.take(1);
        x.take(2);
        bounds.due(4, x, "nearest", 3, 0);
    }

    private static void nearestFarthest() {
        bounds.promise(40, "that NORM from one bound to the other");
        CubicSigns x = Bounds.with(9999, -9999, -9999, 9999);
        bounds.due(1199760012, x, "nearest", 0, 1);
        bounds.due(1199760012, x, "nearest", 1, 1);
        bounds.due(1, x, "nearest", 0, 0);
    }

    private static void nearestNoOther() {
        bounds.promise(40, "-3: no other one");
        CubicSigns x = new CubicSigns();
        x.put(4, 1, 1);
        bounds.due(-3, x, "nearest", 4, 0);
        bounds.due(-3, x, "nearest", 4, 1);
    }

    private static void nearestEmpty() {
        bounds.promise(40, "-2: empty");
        CubicSigns x = Bounds.with(1, 1, 2, 2);
        bounds.due(-2, x, "nearest", 7, 0);
        bounds.due(-2, x, "nearest", 7, 1);
        // ahead of -3
        bounds.due(-2, new CubicSigns(), "nearest", 0, 0);
    }

    private static void nearestNoSuchOnes() {
        bounds.promise(40, "NONE: no such ones");
        CubicSigns x = Bounds.with(1, 1, 2, 2);
        bounds.noSuchDrawer(NONE, 0, x, "nearest", 0, 0);
        bounds.outside(NONE, 0, 1, 1, x, "nearest", 0, 0);
    }

    // ---- promise 41

    private static void ring() {
        ringOfNought();
        ringOfMost();
        ringWhat();
        ringNoSuchOnes();
    }

    private static void ringAs(int n, int all, int right, int primary) {
        CubicSigns x = new CubicSigns();
        bounds.due(all, x, "ring", n, 0);
        bounds.due(right, x, "ring", n, 1);
        bounds.due(primary, x, "ring", n, 2);
    }

    private static void ringOfNought() {
        bounds.promise(41, "with NORM n (0 to ..)");
        ringAs(0, 1, 0, 0);
        ringAs(1, 6, 2, 1);
    }

    private static void ringOfMost() {
        bounds.promise(41, "with NORM n (.. to 1000000)");
        ringAs(MOST, 6, 2, 1);
        // 999979 is a prime that splits: 12, of which a sixth is primary
        ringAs(999979, 12, 4, 2);
        bounds.outside(NONE, 0, MOST, 0, new CubicSigns(), "ring", 0, 0);
        // 1000003 is a norm too
        bounds.due(NONE, new CubicSigns(), "ring", 1000003, 0);
    }

    private static void ringWhat() {
        bounds.promise(41, "1 with a above 0 and b 0 or more, 2 PRIMARY ones");
        ringAs(2, 0, 0, 0);
        ringAs(3, 6, 2, 0);
        ringAs(4, 6, 2, 1);
        ringAs(7, 12, 4, 2);
        ringAs(9, 6, 2, 0);
        ringAs(49, 18, 6, 3);
    }

    private static void ringNoSuchOnes() {
        bounds.promise(41, "NONE: no such ones");
        bounds.outside(NONE, 0, 2, 1, new CubicSigns(), "ring", 7, 0);
        bounds.outside(NONE, 0, 2, 1, new CubicSigns(), "ring", 0, 0);
    }

    // ---- promise 42

    private static void disk() {
        diskOfNought();
        diskOfMost();
        diskOneRow();
        diskNoSuchOnes();
    }

    private static void diskOfNought() {
        bounds.promise(42, "NUMBERS with NORM n (0 to ..) at most");
        CubicSigns x = new CubicSigns();
        bounds.due(1, x, "disk", 0, 0);
        bounds.due(1, x, "disk", 0, 1);
        bounds.due(7, x, "disk", 1, 0);
        bounds.due(7, x, "disk", 2, 0);
        bounds.due(13, x, "disk", 3, 0);
    }

    private static void diskOfMost() {
        bounds.promise(42, "NUMBERS with NORM n (.. to 1000000) at most");
        int all = 0;
        int below = 0;
        for (int b = -1200; b <= 1200; b++) {
            for (int a = -1200; a <= 1200; a++) {
                int norm = a * a - a * b + b * b;
                all += norm <= MOST ? 1 : 0;
                below += norm < MOST ? 1 : 0;
            }
        }
        CubicSigns x = new CubicSigns();
        bounds.due(all, x, "disk", MOST, 0);
        bounds.due(below, x, "disk", MOST - 1, 0);
        bounds.outside(NONE, 0, MOST, 0, x, "disk", 0, 0);
        bounds.outside(NONE, 0, MOST, 0, x, "disk", 0, 1);
    }

    private static void diskOneRow() {
        bounds.promise(42, "1 the most that have one and the same b");
        CubicSigns x = new CubicSigns();
        bounds.due(3, x, "disk", 1, 1);
        bounds.due(3, x, "disk", 2, 1);
        // with b 1: -1, 0, 1, 2
        bounds.due(4, x, "disk", 3, 1);
        bounds.due(5, x, "disk", 4, 1);
        bounds.due(2001, x, "disk", MOST, 1);
        bounds.due(2000, x, "disk", MOST - 1, 1);
    }

    private static void diskNoSuchOnes() {
        bounds.promise(42, "NONE: no such ones");
        bounds.outside(NONE, 0, 1, 1, new CubicSigns(), "disk", 7, 0);
    }

    // ---- promise 43

    private static void ringAt() {
        ringAtByRows();
        ringAtOfNought();
        ringAtOfMost();
        ringAtNotSoMany();
        ringAtNoSuchOnes();
    }

    private static void ringAtAs(int n, int[]... want) {
        CubicSigns x = new CubicSigns();
        for (int k = 0; k < want.length; k++) {
            bounds.due(want[k][0], x, "ringAt", n, k, 0);
            bounds.due(want[k][1], x, "ringAt", n, k, 1);
        }
        bounds.due(NO, x, "ringAt", n, want.length, 0);
        bounds.due(NO, x, "ringAt", n, want.length, 1);
    }

    private static void ringAtByRows() {
        bounds.promise(43, "The k-th (from 0) NUMBER with NORM n, by b, then a");
        ringAtAs(1, new int[][] {{-1, -1}, {0, -1}, {-1, 0}, {1, 0}, {0, 1}, {1, 1}});
        ringAtAs(3, new int[][] {{-1, -2}, {-2, -1}, {1, -1}, {-1, 1}, {2, 1}, {1, 2}});
    }

    private static void ringAtOfNought() {
        bounds.promise(43, "with NORM n (0 to ..)");
        ringAtAs(0, new int[][] {{0, 0}});
    }

    private static void ringAtOfMost() {
        bounds.promise(43, "with NORM n (.. to 1000000)");
        ringAtAs(MOST, new int[][] {{-1000, -1000}, {0, -1000}, {-1000, 0}, {1000, 0}, {0, 1000}, {1000, 1000}});
        bounds.outside(NO, 0, MOST, 0, new CubicSigns(), "ringAt", 0, 0, 0);
        bounds.due(NO, new CubicSigns(), "ringAt", 1000003, 0, 0);
    }

    private static void ringAtNotSoMany() {
        bounds.promise(43, "Integer.MIN_VALUE: no such ones (k)");
        CubicSigns x = new CubicSigns();
        bounds.outside(NO, 0, 5, 1, x, "ringAt", 1, 0, 0);
        bounds.outside(NO, 0, 11, 1, x, "ringAt", 7, 0, 1);
        bounds.due(NO, x, "ringAt", 2, 0, 0);
    }

    private static void ringAtNoSuchOnes() {
        bounds.promise(43, "Integer.MIN_VALUE: no such ones (what)");
        bounds.outside(NO, 0, 1, 2, new CubicSigns(), "ringAt", 7, 0, 0);
    }
}
