/** Boundary cases of what is told and reckoned: promises 6 to 12, and the terms they stand on. */
public final class ReckonedBoundsTest {
    private static final int NO = Bounds.NO;
    private static final int NONE = Bounds.NONE;
    private static final int[][] UNITS = {{1, 0}, {1, 1}, {0, 1}, {-1, 0}, {-1, -1}, {0, -1}};
    private static final Bounds bounds = new Bounds("ReckonedBoundsTest");

    public static void main(String[] args) {
        told();
        work();
        change();
        are();
        written();
        divisors();
        signBy();
        bounds.end();
    }

    private static void toldAs(long want, int what, int a, int b) {
        CubicSigns x = Bounds.with(a, b);
        bounds.same("told of " + a + ", " + b + ": " + what, x.told(0, what), want);
    }

    // ---- promise 6

    private static void told() {
        toldParts();
        toldNorm();
        toldThree();
        toldPrimary();
        toldNoughtIsNoPrime();
        toldUnitsAreNoPrimes();
        toldPrimes();
        toldUnits();
        toldHowOften();
        toldHowOftenOfNought();
        toldEmpty();
        toldNoSuchOnes();
    }

    private static void toldParts() {
        bounds.promise(6, "what 0 a, 1 b");
        toldAs(-9999, 0, -9999, 9999);
        toldAs(9999, 1, -9999, 9999);
        toldAs(0, 0, 0, 5);
        toldAs(0, 1, 5, 0);
    }

    private static void toldNorm() {
        bounds.terms("NORM: a a - a b + b b");
        toldAs(0, 2, 0, 0);
        toldAs(1, 2, -1, -1);
        toldAs(3, 2, 1, -1);
        toldAs(299940003, 2, 9999, -9999);
        toldAs(299940003, 2, -9999, 9999);
        toldAs(99980001, 2, 9999, 9999);
        toldAs(99980001, 2, -9999, -9999);
    }

    private static void toldThree() {
        bounds.terms("A NUMBER is of THREE, if a + b is divided by 3");
        int[][] of = {{0, 0}, {3, 0}, {0, -3}, {1, 2}, {1, -1}, {-1, -2}, {-4, 1}, {9999, -9999}, {-9999, -9999}};
        int[][] not = {{1, 0}, {-1, 0}, {2, 0}, {-2, 0}, {1, 1}, {-1, -1}, {3, 1}, {9999, 9998}, {-9999, -9998}};
        for (int[] n : of) {
            toldAs(1, 3, n[0], n[1]);
        }
        for (int[] n : not) {
            toldAs(0, 3, n[0], n[1]);
        }
    }

    private static void toldPrimary() {
        bounds.terms("PRIMARY: a is 2 more than what is divided by 3 (.., -1, 2, 5, ..), b is divided by 3");
        int[] fit = {-9997, -4, -1, 2, 5, 9998};
        int[] unfit = {-9999, -9998, -3, -2, 0, 1, 3, 4, 9997, 9999};
        for (int a : fit) {
            toldAs(1, 4, a, 0);
            toldAs(1, 4, a, 3);
            toldAs(1, 4, a, -3);
            toldAs(1, 4, a, 9999);
            toldAs(1, 4, a, -9999);
            toldAs(0, 4, a, 1);
            toldAs(0, 4, a, -1);
            toldAs(0, 4, a, 2);
            toldAs(0, 4, a, -2);
        }
        for (int a : unfit) {
            toldAs(0, 4, a, 0);
            toldAs(0, 4, a, 3);
        }
    }

    private static void toldNoughtIsNoPrime() {
        bounds.terms("PRIME: not 0");
        toldAs(0, 5, 0, 0);
    }

    private static void toldUnitsAreNoPrimes() {
        bounds.terms("PRIME: .. no UNIT");
        for (int[] u : UNITS) {
            toldAs(0, 5, u[0], u[1]);
        }
    }

    private static void toldPrimes() {
        bounds.terms("PRIME: .. only divided by UNITS and those ALIKE it");
        int[][] primes = {{1, -1}, {2, 1}, {1, 2}, {-1, 1}, {-2, -1}, {-1, -2}, {2, 0}, {-2, -2}, {0, 2}, {2, 3}, {3, -2}, {5, 0}, {0, -5}, {9887, 0}, {0, 9887}};
        int[][] others = {{3, 0}, {3, 3}, {0, -3}, {4, 0}, {7, 0}, {6, 0}, {2, -2}, {-5, 3}, {9973, 0}, {9999, 0}, {9887, -9887}, {9999, -9999}};
        for (int[] n : primes) {
            toldAs(1, 5, n[0], n[1]);
        }
        for (int[] n : others) {
            toldAs(0, 5, n[0], n[1]);
        }
    }

    private static void toldUnits() {
        bounds.promise(6, "6 the number of the UNIT that it is (-1: none)");
        for (int u = 0; u < 6; u++) {
            toldAs(u, 6, UNITS[u][0], UNITS[u][1]);
        }
        int[][] none = {{0, 0}, {1, -1}, {-1, 1}, {2, 0}, {2, 1}, {0, 2}, {-2, -1}};
        for (int[] n : none) {
            toldAs(-1, 6, n[0], n[1]);
        }
    }

    private static void toldHowOften() {
        bounds.promise(6, "7 how often 1 - w divides it");
        toldAs(0, 7, 1, 0);
        toldAs(0, 7, 2, 0);
        toldAs(1, 7, 1, -1);
        toldAs(1, 7, 1, 2);
        toldAs(2, 7, 3, 0);
        toldAs(2, 7, 0, -3);
        toldAs(3, 7, 3, -3);
        toldAs(16, 7, 6561, 0);
        toldAs(17, 7, 6561, -6561);
        toldAs(0, 7, 9999, 9998);
    }

    private static void toldHowOftenOfNought() {
        bounds.promise(6, "(0: -1)");
        toldAs(-1, 7, 0, 0);
    }

    private static void toldEmpty() {
        bounds.promise(6, "Integer.MIN_VALUE: empty");
        CubicSigns x = Bounds.with(1, 1);
        x.take(0);
        for (int what = 0; what < 8; what++) {
            bounds.due(NO, x, "told", 0, what);
            bounds.due(NO, x, "told", 7, what);
        }
    }

    private static void toldNoSuchOnes() {
        bounds.promise(6, "Integer.MIN_VALUE: .. no such ones");
        CubicSigns x = Bounds.with(1, 1, 1, 1, 1, 1, 1, 1, 1, 1, 1, 1, 1, 1, 1, 1);
        bounds.noSuchDrawer(NO, 0, x, "told", 0, 0);
        bounds.outside(NO, 0, 7, 1, x, "told", 0, 0);
        bounds.due(1, x, "told", 7, 0);
    }

    // ---- promise 7

    private static void work() {
        partedHalves();
        workByNought();
        workOfBothNought();
        workOfOneNought();
        workSumBeyond();
        workDifferenceBeyond();
        workProductBeyond();
        workQuotientBeyond();
        workRestBeyond();
        workDivisorBeyond();
        workBeyondLeaves();
        workEmpty();
        workIntoAnyDrawer();
        workNoSuchOnes();
        greatestDivisorOwn();
    }

    /** The answer of a work that is done is its norm. */
    private static void works(int how, int na, int nb, int ma, int mb, int a, int b) {
        CubicSigns x = Bounds.with(na, nb, ma, mb);
        bounds.due((long) a * a - (long) a * b + (long) b * b, x, "work", 0, 1, 2, how);
        bounds.holds(x, 2, a, b);
    }

    private static void worksNot(int want, int how, int na, int nb, int ma, int mb) {
        CubicSigns x = Bounds.with(na, nb, ma, mb, 7, 8);
        bounds.same("work " + how + " of " + na + ", " + nb + " and " + ma + ", " + mb, x.work(0, 1, 2, how), want);
        bounds.holds(x, 2, 7, 8);
        bounds.holds(x, 0, na, nb);
        bounds.holds(x, 1, ma, mb);
    }

    private static void partedHalves() {
        bounds.terms("PARTED: .. each part cut down behind one half was added");
        works(3, 1, 0, 2, 0, 1, 0);
        works(3, -1, 0, 2, 0, 0, 0);
        works(3, 3, 0, 2, 0, 2, 0);
        works(3, -3, 0, 2, 0, -1, 0);
        works(3, 0, 1, 2, 0, 0, 1);
        works(3, 0, -1, 2, 0, 0, 0);
        works(3, 0, -3, 2, 0, 0, -1);
        // just below and above one half
        works(3, 9, 0, 19, 0, 0, 0);
        works(3, 10, 0, 19, 0, 1, 0);
        works(3, -9, 0, 19, 0, 0, 0);
        works(3, -10, 0, 19, 0, -1, 0);
        // the rests of halves
        works(4, 1, 1, 2, 0, -1, -1);
        works(4, -1, -1, 2, 0, -1, -1);
        works(4, 1, 0, -2, 0, 1, 0);
        works(4, 0, 0, 2, 0, 0, 0);
    }

    private static void workByNought() {
        bounds.promise(7, "-3: by 0 (how 3, 4)");
        worksNot(-3, 3, 5, 3, 0, 0);
        worksNot(-3, 4, 5, 3, 0, 0);
        worksNot(-3, 3, 0, 0, 0, 0);
        worksNot(-3, 4, 0, 0, 0, 0);
        works(3, 0, 0, 5, 3, 0, 0);
        works(4, 0, 0, 5, 3, 0, 0);
    }

    private static void workOfBothNought() {
        bounds.promise(7, "-3: .. of both 0 (.. 5)");
        worksNot(-3, 5, 0, 0, 0, 0);
        works(5, 0, 0, 0, 1, -1, 0);
        works(5, 0, -1, 0, 0, -1, 0);
        works(5, 0, 0, 2, 3, 2, 3);
        works(5, 2, 3, 0, 0, 2, 3);
    }

    private static void workOfOneNought() {
        bounds.promise(7, "-3 is told of how 3, 4, 5 alone");
        works(0, 0, 0, 0, 0, 0, 0);
        works(1, 0, 0, 0, 0, 0, 0);
        works(2, 0, 0, 0, 0, 0, 0);
        works(2, 9999, 9999, 0, 0, 0, 0);
        works(0, 9999, -9999, 0, 0, 9999, -9999);
        works(1, 0, 0, 9999, -9999, -9999, 9999);
    }

    private static void workSumBeyond() {
        bounds.promise(7, "-4: a part would be beyond its bounds (how 0)");
        works(0, 9998, 0, 1, 0, 9999, 0);
        works(0, -9998, 0, -1, 0, -9999, 0);
        works(0, 0, 9998, 0, 1, 0, 9999);
        works(0, 0, -9998, 0, -1, 0, -9999);
        worksNot(-4, 0, 9999, 0, 1, 0);
        worksNot(-4, 0, -9999, 0, -1, 0);
        worksNot(-4, 0, 0, 9999, 0, 1);
        worksNot(-4, 0, 0, -9999, 0, -1);
        worksNot(-4, 0, 9999, 9999, 9999, 9999);
    }

    private static void workDifferenceBeyond() {
        bounds.promise(7, "-4: a part would be beyond its bounds (how 1)");
        works(1, 9998, 0, -1, 0, 9999, 0);
        works(1, 0, -9998, 0, 1, 0, -9999);
        worksNot(-4, 1, 9999, 0, -1, 0);
        worksNot(-4, 1, -9999, 0, 1, 0);
        worksNot(-4, 1, 0, 9999, 0, -1);
        worksNot(-4, 1, 0, -9999, 0, 1);
        worksNot(-4, 1, -9999, -9999, 9999, 9999);
    }

    private static void workProductBeyond() {
        bounds.promise(7, "-4: a part would be beyond its bounds (how 2)");
        works(2, 99, 0, 101, 0, 9999, 0);
        works(2, -99, 0, 101, 0, -9999, 0);
        works(2, 99, 0, 0, 101, 0, 9999);
        worksNot(-4, 2, 100, 0, 100, 0);
        worksNot(-4, 2, 100, 0, -100, 0);
        worksNot(-4, 2, 100, 0, 0, 100);
        worksNot(-4, 2, 100, 0, 0, -100);
        // each part alone: 10000 + 9999 w, 1 + 10000 w
        worksNot(-4, 2, 9999, -1, 1, 1);
        worksNot(-4, 2, 9999, -1, 0, 1);
        worksNot(-4, 2, 9999, -9999, -9999, 9999);
    }

    private static void workQuotientBeyond() {
        bounds.promise(7, "-4: a part would be beyond its bounds (how 3)");
        works(3, 9999, 0, -1, 0, -9999, 0);
        works(3, 9998, -1, 0, -1, 9999, 9998);
        works(3, 9998, -1, -1, -1, 1, 9999);
        worksNot(-4, 3, 9999, -1, 0, -1);
        worksNot(-4, 3, -9999, 1, 0, -1);
        worksNot(-4, 3, 9999, -1, -1, -1);
        worksNot(-4, 3, -9999, 1, -1, -1);
    }

    private static void workRestBeyond() {
        bounds.promise(7, "-4: a part would be beyond its bounds (how 4)");
        works(3, -9999, -9998, 9999, -9999, 0, -1);
        works(4, -9999, -9999, 9999, -9999, 0, 9999);
        worksNot(-4, 4, -9999, -9998, 9999, -9999);
    }

    private static void workDivisorBeyond() {
        bounds.promise(7, "-4: a part would be beyond its bounds (how 5)");
        works(5, 0, 0, 9998, -1, -1, -9999);
        works(5, 9998, -1, 9998, -1, -1, -9999);
        // the primary one alike it is -10000 - 9999 w
        worksNot(-4, 5, 0, 0, 9999, -1);
        worksNot(-4, 5, 9999, -1, 0, 0);
        worksNot(-4, 5, 9999, -1, -9999, 1);
    }

    private static void workBeyondLeaves() {
        bounds.promise(7, "-4 leaves DRAWER f, also if it is d or e, or empty");
        CubicSigns x = Bounds.with(9999, 0, 1, 0);
        bounds.due(-4, x, "work", 0, 1, 0, 0);
        bounds.holds(x, 0, 9999, 0);
        bounds.due(-4, x, "work", 0, 1, 1, 0);
        bounds.holds(x, 1, 1, 0);
        bounds.due(-4, x, "work", 0, 1, 7, 0);
        bounds.isEmpty(x, 7);
    }

    private static void workEmpty() {
        bounds.promise(7, "-2: d or e is empty");
        CubicSigns x = Bounds.with(1, 0, 2, 0);
        for (int how = 0; how < 6; how++) {
            bounds.due(-2, x, "work", 7, 0, 1, how);
            bounds.due(-2, x, "work", 0, 7, 1, how);
            bounds.due(-2, x, "work", 7, 7, 1, how);
        }
        bounds.holds(x, 1, 2, 0);
    }

    private static void workIntoAnyDrawer() {
        bounds.promise(7, "Into DRAWER f (empty, d's or e's)");
        for (int f = 0; f < 8; f++) {
            CubicSigns x = Bounds.with(5, 1, 2, 7);
            bounds.due(49 - 7 * 8 + 64, x, "work", 0, 1, f, 0);
            bounds.holds(x, f, 7, 8);
            bounds.due(3 | 1 << f, x, "count", 0);
        }
        CubicSigns one = Bounds.with(3, 0);
        bounds.due(81, one, "work", 0, 0, 0, 2);
        bounds.holds(one, 0, 9, 0);
    }

    private static void workNoSuchOnes() {
        bounds.promise(7, "NONE: no such ones");
        CubicSigns x = Bounds.with(1, 0, 2, 0, 3, 0);
        for (int place = 0; place < 3; place++) {
            bounds.noSuchDrawer(NONE, place, x, "work", 0, 1, 2, 0);
        }
        bounds.outside(NONE, 0, 5, 3, x, "work", 0, 1, 2, 0);
        bounds.holds(x, 2, 3, 0);
    }

    private static void greatestDivisorOwn() {
        bounds.terms("The GREATEST COMMON DIVISOR of two, not both 0: OWN");
        works(5, 1, 0, 1, 0, -1, 0);
        works(5, 2, 0, 3, 0, -1, 0);
        works(5, 1, -1, 1, -1, -1, 1);
        works(5, 3, 0, 9, 0, 0, 3);
        works(5, 14, 0, 21, 0, -7, 0);
        works(5, 4, 0, 6, 0, 2, 0);
        works(5, 2, 3, -1, -3, -1, 0);
    }

    // ---- promise 8

    private static void change() {
        ownOfNought();
        ownTakesOutThrees();
        changeTurnedBeyond();
        changeOwnBeyond();
        changeUnitBeyond();
        changeUnitsGoRound();
        changeEmpty();
        changeNoSuchOnes();
    }

    private static void changes(int how, int na, int nb, int a, int b) {
        CubicSigns x = Bounds.with(na, nb);
        bounds.due((long) a * a - (long) a * b + (long) b * b, x, "change", 0, how);
        bounds.holds(x, 0, a, b);
    }

    private static void changesNot(int how, int na, int nb) {
        CubicSigns x = Bounds.with(na, nb);
        bounds.same("change of " + na + ", " + nb + ": " + how, x.change(0, how), -4);
        bounds.holds(x, 0, na, nb);
    }

    private static void ownOfNought() {
        bounds.terms("OWN .. of 0: 0");
        changes(1, 0, 0, 0, 0);
    }

    private static void ownTakesOutThrees() {
        bounds.terms("OWN of n: 1 - w is taken out as often as it divides (k times)");
        for (int[] u : UNITS) {
            changes(1, u[0], u[1], -1, 0);
        }
        int[][] ofThree = {{1, -1}, {2, 1}, {1, 2}, {-1, 1}, {-2, -1}, {-1, -2}};
        for (int[] n : ofThree) {
            changes(1, n[0], n[1], -1, 1);
        }
        // (1 - w) to the 2 is -3 w, to the 3 is -3 w + 3 w w
        changes(1, 3, 0, 0, 3);
        changes(1, 0, -3, 0, 3);
        changes(1, 3, -3, 3, 6);
        changes(1, 2, 0, 2, 0);
        changes(1, -2, -2, 2, 0);
        changes(1, 2, -2, 2, -2);
    }

    private static void changeTurnedBeyond() {
        bounds.promise(8, "-4: a part would be beyond its bounds (TURNED)");
        changes(0, 9998, -1, 9999, 1);
        changes(0, -9998, 1, -9999, -1);
        changes(0, 9999, 9999, 0, -9999);
        changesNot(0, 9999, -1);
        changesNot(0, -9999, 1);
        changesNot(0, 9999, -9999);
    }

    private static void changeOwnBeyond() {
        bounds.promise(8, "-4: a part would be beyond its bounds (OWN)");
        changes(1, 9998, -1, -1, -9999);
        changesNot(1, 9999, -1);
        changesNot(1, -9999, 1);
    }

    private static void changeUnitBeyond() {
        bounds.promise(8, "-4: a part would be beyond its bounds (times UNIT)");
        changes(2, 9999, -1, 9999, -1);
        changesNot(3, 9999, -1);
        changesNot(4, 9999, -1);
        changes(5, 9999, -1, -9999, 1);
        changesNot(6, 9999, -1);
        changesNot(7, 9999, -1);
        changes(3, 9998, -1, 9999, 9998);
        changes(4, 9998, -1, 1, 9999);
        changes(6, 9998, -1, -9999, -9998);
        changes(7, 9998, -1, -1, -9999);
    }

    private static void changeUnitsGoRound() {
        bounds.terms("UNITS 0 to 5: .. each the one ahead times 1 + w");
        for (int u = 0; u < 6; u++) {
            changes(2 + u, 1, 0, UNITS[u][0], UNITS[u][1]);
            changes(3, UNITS[u][0], UNITS[u][1], UNITS[(u + 1) % 6][0], UNITS[(u + 1) % 6][1]);
            changes(2 + u, 0, 0, 0, 0);
        }
    }

    private static void changeEmpty() {
        bounds.promise(8, "-2: empty");
        CubicSigns x = Bounds.with(1, 1);
        for (int how = 0; how < 8; how++) {
            bounds.due(-2, x, "change", 7, how);
        }
        bounds.due(1, x, "count", 0);
    }

    private static void changeNoSuchOnes() {
        bounds.promise(8, "NONE: no such ones");
        CubicSigns x = Bounds.with(3, 1);
        bounds.noSuchDrawer(NONE, 0, x, "change", 0, 0);
        bounds.outside(NONE, 0, 7, 1, x, "change", 0, 0);
        bounds.holds(x, 0, 3, 1);
    }

    // ---- promise 9

    private static void are() {
        areAlike();
        arePrimeTo();
        areNotBothNought();
        areDivided();
        areNoughtDividesNoughtAlone();
        areEmpty();
        areNoSuchOnes();
    }

    private static void areAs(int want, int what, int na, int nb, int ma, int mb) {
        CubicSigns x = Bounds.with(na, nb, ma, mb);
        bounds.same("are " + what + " of " + na + ", " + nb + " and " + ma + ", " + mb, x.are(0, 1, what), want);
    }

    private static void areAlike() {
        bounds.terms("ALIKE are two, if one is a UNIT times the other");
        int[][] six = {{5, 2}, {3, 5}, {-2, 3}, {-5, -2}, {-3, -5}, {2, -3}};
        for (int[] n : six) {
            areAs(1, 0, n[0], n[1], 5, 2);
            areAs(1, 0, 5, 2, n[0], n[1]);
            areAs(0, 0, n[0], n[1], 3, -2);
        }
        areAs(1, 0, 0, 0, 0, 0);
        areAs(0, 0, 0, 0, 1, 0);
        areAs(0, 0, 1, 0, 0, 0);
        // of one norm, 49, but not alike
        areAs(0, 0, 7, 0, -5, 3);
        areAs(0, 0, 2, 0, 4, 0);
        areAs(1, 0, 9999, -9999, -9999, 9999);
    }

    private static void arePrimeTo() {
        bounds.promise(9, "1 PRIME TO each other (no PRIME divides both)");
        areAs(1, 1, 2, 0, 3, 0);
        areAs(0, 1, 2, 0, 4, 0);
        areAs(0, 1, 1, -1, 3, 0);
        areAs(1, 1, 2, 3, -1, -3);
        areAs(0, 1, 2, 3, 3, 1);
        areAs(1, 1, 1, 0, 1, 1);
        areAs(1, 1, 0, 1, 9999, -9999);
    }

    private static void areNotBothNought() {
        bounds.promise(9, "not both 0");
        areAs(0, 1, 0, 0, 0, 0);
        areAs(1, 1, 0, 0, 0, -1);
        areAs(1, 1, -1, -1, 0, 0);
        areAs(0, 1, 0, 0, 2, 0);
        areAs(0, 1, 1, -1, 0, 0);
    }

    private static void areDivided() {
        bounds.promise(9, "2 the first divides the second");
        areAs(1, 2, 2, 0, 4, 0);
        areAs(0, 2, 4, 0, 2, 0);
        areAs(1, 2, 2, 3, 7, 0);
        areAs(0, 2, 2, 3, 6, 0);
        areAs(1, 2, 0, -1, 9999, 9999);
        areAs(0, 2, 2, 0, 1, 1);
        areAs(1, 2, 1, -1, 3, 0);
        // one part alone is divided
        areAs(0, 2, 2, 0, 2, 1);
        areAs(0, 2, 2, 0, 1, 2);
    }

    private static void areNoughtDividesNoughtAlone() {
        bounds.promise(9, "(0 divides 0 alone)");
        areAs(1, 2, 0, 0, 0, 0);
        areAs(0, 2, 0, 0, 1, 0);
        areAs(0, 2, 0, 0, 0, 1);
        areAs(1, 2, 5, 3, 0, 0);
    }

    private static void areEmpty() {
        bounds.promise(9, "-2: one is empty");
        CubicSigns x = Bounds.with(1, 1);
        for (int what = 0; what < 3; what++) {
            bounds.due(-2, x, "are", 0, 7, what);
            bounds.due(-2, x, "are", 7, 0, what);
            bounds.due(-2, x, "are", 7, 7, what);
            bounds.due(1, x, "are", 0, 0, what);
        }
    }

    private static void areNoSuchOnes() {
        bounds.promise(9, "NONE: no such ones");
        CubicSigns x = Bounds.with(1, 1, 1, 1);
        bounds.noSuchDrawer(NONE, 0, x, "are", 0, 1, 0);
        bounds.noSuchDrawer(NONE, 1, x, "are", 0, 1, 0);
        bounds.outside(NONE, 0, 2, 2, x, "are", 0, 1, 0);
    }

    // ---- promise 10

    private static void written() {
        writtenUnits();
        writtenThrees();
        writtenRise();
        writtenEachSoOften();
        writtenNotSoMany();
        writtenNought();
        writtenEmpty();
        writtenNoSuchOnes();
    }

    private static void writtenAs(int a, int b, int threes, int unit, int... primes) {
        CubicSigns x = Bounds.with(a, b);
        int many = primes.length / 2;
        bounds.due(many, x, "written", 0, NONE, 0);
        bounds.due(threes, x, "written", 0, NONE, 1);
        bounds.due(unit, x, "written", 0, NONE, 2);
        for (int k = 0; k < many; k++) {
            int p = primes[2 * k];
            int q = primes[2 * k + 1];
            bounds.due(p, x, "written", 0, k, 0);
            bounds.due(q, x, "written", 0, k, 1);
            bounds.due(p * p - p * q + q * q, x, "written", 0, k, 2);
        }
        for (int what = 0; what < 3; what++) {
            bounds.due(NO, x, "written", 0, many, what);
        }
    }

    private static void writtenUnits() {
        bounds.promise(10, "a UNIT alone has no PRIMARY PRIME");
        for (int u = 0; u < 6; u++) {
            writtenAs(UNITS[u][0], UNITS[u][1], 0, u);
        }
    }

    private static void writtenThrees() {
        bounds.promise(10, "1 k of 1 - w");
        writtenAs(1, -1, 1, 0);
        writtenAs(2, 1, 1, 1);
        // -3 w is (1 - w) to the 2, and 3 is that times w w times -1
        writtenAs(0, -3, 2, 0);
        writtenAs(3, 0, 2, 1);
        writtenAs(2, -2, 1, 0, 2, 0);
    }

    private static void writtenRise() {
        bounds.terms("PRIMARY PRIMES, which rise by NORM, of like NORM by b");
        writtenAs(7, 0, 0, 0, -1, -3, 2, 3);
        writtenAs(70, 0, 0, 0, 2, 0, -1, -3, 2, 3, 5, 0);
        writtenAs(91, 0, 0, 0, -1, -3, 2, 3, -4, -3, -1, 3);
        writtenAs(-2, 0, 0, 3, 2, 0);
        writtenAs(12, 11, 0, 5, 2, 3, 5, 3);
    }

    private static void writtenEachSoOften() {
        bounds.terms("(of unlike b; like ones beside each other)");
        writtenAs(49, 0, 0, 0, -1, -3, -1, -3, 2, 3, 2, 3);
        writtenAs(4, 0, 0, 0, 2, 0, 2, 0);
        writtenAs(-5, 3, 0, 0, 2, 3, 2, 3);
        int[] twos = new int[26];
        for (int i = 0; i < 26; i += 2) {
            twos[i] = 2;
        }
        writtenAs(8192, 0, 0, 0, twos);
        writtenAs(0, -8192, 0, 5, twos);
        writtenAs(9887, 0, 0, 0, 9887, 0);
    }

    private static void writtenNotSoMany() {
        bounds.promise(10, "Integer.MIN_VALUE: .. no such ones (PRIMARY PRIME k)");
        CubicSigns x = Bounds.with(12, 11, 2, 0);
        bounds.due(5, x, "written", 0, 1, 0);
        bounds.due(NO, x, "written", 0, 2, 0);
        bounds.due(NO, x, "written", 0, Integer.MAX_VALUE, 0);
        bounds.due(2, x, "written", 1, 0, 0);
        // the primes and the unit of an earlier number are gone
        bounds.due(NO, x, "written", 1, 1, 0);
        bounds.due(5, x, "written", 0, NONE, 2);
        bounds.due(0, x, "written", 1, NONE, 2);
        bounds.due(1, x, "written", 1, NONE, 0);
    }

    private static void writtenNought() {
        bounds.promise(10, "Integer.MIN_VALUE: .. 0");
        CubicSigns x = Bounds.with(0, 0);
        for (int what = 0; what < 3; what++) {
            bounds.due(NO, x, "written", 0, NONE, what);
            bounds.due(NO, x, "written", 0, 0, what);
        }
    }

    private static void writtenEmpty() {
        bounds.promise(10, "Integer.MIN_VALUE: empty");
        CubicSigns x = Bounds.with(6, 0);
        for (int what = 0; what < 3; what++) {
            bounds.due(NO, x, "written", 7, NONE, what);
            bounds.due(NO, x, "written", 7, 0, what);
        }
    }

    private static void writtenNoSuchOnes() {
        bounds.promise(10, "Integer.MIN_VALUE: .. no such ones");
        CubicSigns x = Bounds.with(6, 0, 6, 0, 6, 0, 6, 0, 6, 0, 6, 0, 6, 0, 6, 0);
        bounds.noSuchDrawer(NO, 0, x, "written", 0, NONE, 0);
        bounds.noSuchDrawer(NO, 0, x, "written", 0, 0, 0);
        bounds.outside(NO, 0, 2, 2, x, "written", 0, NONE, 0);
        bounds.outside(NO, 0, 2, 2, x, "written", 0, 0, 0);
        bounds.due(NO, x, "written", 0, -2, 0);
        bounds.due(NO, x, "written", 0, Integer.MIN_VALUE, 0);
    }

    // ---- promise 11

    private static void divisors() {
        divisorsOfUnits();
        divisorsOfPrimes();
        divisorsOfGreatest();
        divisorsSquares();
        divisorsOddAndEven();
        divisorsNought();
        divisorsEmpty();
        divisorsNoSuchOnes();
    }

    private static void divisorsAs(int a, int b, long many, long norms, long classes, long sign) {
        CubicSigns x = Bounds.with(a, b);
        bounds.due(many, x, "divisors", 0, 0);
        bounds.due(norms, x, "divisors", 0, 1);
        bounds.due(classes, x, "divisors", 0, 2);
        bounds.due(sign, x, "divisors", 0, 3);
    }

    private static void divisorsOfUnits() {
        bounds.promise(11, "of a UNIT one OWN one alone divides");
        for (int[] u : UNITS) {
            divisorsAs(u[0], u[1], 1, 1, 1, 1);
        }
    }

    private static void divisorsOfPrimes() {
        bounds.promise(11, "what 0 how many OWN ones divide it, 1 the NORMS of these together, 2 how many classes are PRIME TO it");
        divisorsAs(1, -1, 2, 4, 2, -1);
        divisorsAs(3, 0, 3, 13, 6, 0);
        divisorsAs(2, 0, 2, 5, 3, -1);
        divisorsAs(4, 0, 3, 21, 12, 0);
        divisorsAs(7, 0, 4, 64, 36, 1);
        divisorsAs(84, 0, 36, 13 * 21 * 64, 6 * 12 * 36, 0);
        // -1 - 3 w times -1 + 3 w, of one a; 2 + 3 w times 5 + 3 w, of one b
        divisorsAs(10, 9, 4, 8 * 14, 6 * 12, 1);
        divisorsAs(12, 11, 4, 8 * 20, 6 * 18, 1);
    }

    private static void divisorsOfGreatest() {
        bounds.promise(11, "of the greatest NORM");
        // 9999 is 9 times 11 times 101
        divisorsAs(9999, -9999, 24, 364L * 122 * 10202, 162L * 120 * 10200, 0);
        divisorsAs(9887, 0, 2, 9887L * 9887 + 1, 9887L * 9887 - 1, -1);
    }

    private static void divisorsSquares() {
        bounds.promise(11, "3 0 if some PRIME times itself divides it");
        int[][] squares = {{3, 0}, {3, -3}, {4, 0}, {49, 0}, {-5, 3}, {12, 0}, {-15, 9}, {50, -50}};
        for (int[] n : squares) {
            bounds.due(0, Bounds.with(n), "divisors", 0, 3);
        }
    }

    private static void divisorsOddAndEven() {
        bounds.promise(11, "else 1, or -1 if an odd number of PRIMES (those ALIKE as one) divide it");
        bounds.due(1, Bounds.with(1, 0), "divisors", 0, 3);
        bounds.due(-1, Bounds.with(1, -1), "divisors", 0, 3);
        bounds.due(-1, Bounds.with(0, 2), "divisors", 0, 3);
        bounds.due(1, Bounds.with(2, -2), "divisors", 0, 3);
        // 2 and the two of norm 7
        bounds.due(-1, Bounds.with(14, 0), "divisors", 0, 3);
        bounds.due(1, Bounds.with(14, -14), "divisors", 0, 3);
        bounds.due(-1, Bounds.with(70, -70), "divisors", 0, 3);
    }

    private static void divisorsNought() {
        bounds.promise(11, "Long.MIN_VALUE: .. 0");
        for (int what = 0; what < 4; what++) {
            bounds.due(Long.MIN_VALUE, Bounds.with(0, 0), "divisors", 0, what);
        }
    }

    private static void divisorsEmpty() {
        bounds.promise(11, "Long.MIN_VALUE: empty");
        for (int what = 0; what < 4; what++) {
            bounds.due(Long.MIN_VALUE, Bounds.with(1, 1), "divisors", 7, what);
        }
    }

    private static void divisorsNoSuchOnes() {
        bounds.promise(11, "Long.MIN_VALUE: .. no such ones");
        CubicSigns x = Bounds.with(6, 0, 6, 0, 6, 0, 6, 0, 6, 0, 6, 0, 6, 0, 6, 0);
        bounds.noSuchDrawer(Long.MIN_VALUE, 0, x, "divisors", 0, 0);
        bounds.outside(Long.MIN_VALUE, 0, 3, 1, x, "divisors", 0, 0);
    }

    // ---- promise 12

    private static void signBy() {
        signByNotSoMany();
        signByDivided();
        signByUnfit();
        signByEmpty();
        signByNoSuchOnes();
    }

    private static void signByNotSoMany() {
        bounds.promise(12, "-4: not so many");
        // w by 2 is w; 14 is 2 times -1 - 3 w times 2 + 3 w
        CubicSigns x = Bounds.with(0, 1, 14, 0, 0, -2, 4, 0);
        int[] signs = {1, 2, 2};
        for (int k = 0; k < 3; k++) {
            bounds.due(signs[k], x, "signBy", 0, 1, k);
        }
        bounds.due(-4, x, "signBy", 0, 1, 3);
        bounds.due(-4, x, "signBy", 0, 1, Integer.MAX_VALUE);
        bounds.due(1, x, "signBy", 0, 2, 0);
        bounds.due(-4, x, "signBy", 0, 2, 1);
        bounds.due(1, x, "signBy", 0, 3, 1);
        bounds.due(-4, x, "signBy", 0, 3, 2);
    }

    private static void signByDivided() {
        bounds.promise(12, "THE SIGN: 3, if m divides n");
        CubicSigns x = Bounds.with(2, 3, 14, 0, 0, 0);
        bounds.due(1, x, "signBy", 0, 1, 0);
        bounds.due(3, x, "signBy", 0, 1, 2);
        for (int k = 0; k < 3; k++) {
            bounds.due(3, x, "signBy", 1, 1, k);
            bounds.due(3, x, "signBy", 2, 1, k);
        }
    }

    private static void signByUnfit() {
        bounds.promise(12, "-3: e's is 0, a UNIT, one of THREE");
        int[][] unfit = {{0, 0}, {1, 0}, {1, 1}, {0, 1}, {-1, 0}, {-1, -1}, {0, -1}, {1, -1}, {3, 0}, {6, 0}, {9999, -9999}};
        for (int[] m : unfit) {
            CubicSigns x = Bounds.with(2, 3, m[0], m[1]);
            bounds.due(-3, x, "signBy", 0, 1, 0);
            bounds.due(-3, x, "signBy", 0, 1, 99);
        }
    }

    private static void signByEmpty() {
        bounds.promise(12, "-2: one is empty");
        CubicSigns x = Bounds.with(2, 3);
        bounds.due(-2, x, "signBy", 0, 7, 0);
        bounds.due(-2, x, "signBy", 7, 0, 0);
        bounds.due(-2, x, "signBy", 7, 7, 99);
    }

    private static void signByNoSuchOnes() {
        bounds.promise(12, "NONE: no such ones (k below 0)");
        CubicSigns x = Bounds.with(2, 3, 2, 0);
        bounds.noSuchDrawer(NONE, 0, x, "signBy", 0, 1, 0);
        bounds.noSuchDrawer(NONE, 1, x, "signBy", 0, 1, 0);
        bounds.due(NONE, x, "signBy", 0, 1, -1);
        bounds.due(NONE, x, "signBy", 0, 1, Integer.MIN_VALUE);
    }
}
