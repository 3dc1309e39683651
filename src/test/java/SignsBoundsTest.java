/** Boundary cases of the cubic sign and the whole primes: promises 28 to 36, and the terms they stand on. */
public final class SignsBoundsTest {
    private static final int NO = Bounds.NO;
    private static final int NONE = Bounds.NONE;
    private static final int[][] UNFIT = {
        {0, 0}, {1, 0}, {1, 1}, {0, 1}, {-1, 0}, {-1, -1}, {0, -1}, {1, -1}, {2, 1}, {3, 0}, {-6, 0}, {9999, -9999},
    };
    private static final int[] NO_THIRDS = {
        6, 5, 3, 2, 1, 0, -1, -7, 8, 9, 11, 17, 25, 49, 55, 91, 169, 961, 983, 989, 996, 998, 999, 1003, 1009, 1021,
        Integer.MIN_VALUE, Integer.MAX_VALUE,
    };
    private static final Bounds bounds = new Bounds("SignsBoundsTest");

    public static void main(String[] args) {
        sign();
        turned();
        supplement();
        prime();
        sum();
        split();
        thirds();
        primeAt();
        crowd();
        bounds.end();
    }

    private static CubicSigns pair(int na, int nb, int ma, int mb) {
        return Bounds.with(na, nb, ma, mb);
    }

    // ---- promise 28

    private static void signAs(int want, int na, int nb, int ma, int mb) {
        CubicSigns x = pair(na, nb, ma, mb);
        bounds.same("sign of " + na + ", " + nb + " by " + ma + ", " + mb, x.sign(0, 1), want);
    }

    private static void sign() {
        signByLeastPrime();
        signDivided();
        signTogether();
        signThreeIfSomeIs();
        signByAlikeOnes();
        signByGreatest();
        signUnfit();
        signEmpty();
        signNoSuchOnes();
    }

    private static void signByLeastPrime() {
        bounds.terms("THE SIGN of a PRIME m: 0, 1, 2, if n to the (NORM - 1) by 3 is of the class of 1, w, w w");
        signAs(0, 1, 0, 2, 0);
        signAs(1, 0, 1, 2, 0);
        signAs(2, 1, 1, 2, 0);
        signAs(0, -1, 0, 2, 0);
        signAs(2, 0, 1, 2, 3);
        signAs(0, 6, 0, 2, 3);
    }

    private static void signDivided() {
        bounds.terms("THE SIGN: .. 3, if m divides n");
        signAs(3, 0, 0, 2, 0);
        signAs(3, 2, 0, 2, 0);
        signAs(3, 9998, -9998, 2, 0);
        signAs(3, 7, 0, 2, 3);
        signAs(3, 0, 0, 9998, 0);
    }

    private static void signTogether() {
        bounds.terms("of others of all PRIMES in m (each so often) together, modulo 3");
        signAs(2, 0, 1, 4, 0);
        signAs(0, 0, 1, 8, 0);
        signAs(1, 0, 1, 16, 0);
        signAs(1, 0, 1, 7, 0);
        signAs(2, 0, 1, 14, 0);
        signAs(1, 0, 1, 8192, 0);
    }

    private static void signThreeIfSomeIs() {
        bounds.terms("(3, if some is 3)");
        signAs(3, 2, 0, 14, 0);
        signAs(3, 2, 3, 14, 0);
        signAs(3, -1, -3, 14, 0);
        signAs(3, 2, 0, 4, 0);
        signAs(0, 3, 0, 10, 0);
    }

    private static void signByAlikeOnes() {
        bounds.terms("THE SIGN by those ALIKE m");
        int[][] six = {{2, 3}, {-1, 2}, {-3, -1}, {-2, -3}, {1, -2}, {3, 1}};
        for (int[] m : six) {
            signAs(1, 2, 0, m[0], m[1]);
            signAs(2, 0, 1, m[0], m[1]);
        }
    }

    private static void signByGreatest() {
        bounds.promise(28, "THE SIGN by the greatest PRIMES");
        signAs(0, 2, 0, 9887, 0);
        signAs(0, 9999, 0, 0, -9887);
        signAs(3, 9887, 9887, 9887, 0);
        // w by m is (NORM - 1) by 3, modulo 3
        signAs((int) (((long) 9887 * 9887 - 1) / 3 % 3), 0, 1, 9887, 0);
    }

    private static void signUnfit() {
        bounds.promise(28, "-3: by 0, a UNIT, one of THREE");
        for (int[] m : UNFIT) {
            signAs(-3, 2, 3, m[0], m[1]);
            signAs(-3, 0, 0, m[0], m[1]);
        }
    }

    private static void signEmpty() {
        bounds.promise(28, "-2: one is empty");
        CubicSigns x = pair(2, 3, 0, 0);
        bounds.due(-2, x, "sign", 0, 7);
        bounds.due(-2, x, "sign", 7, 0);
        bounds.due(-2, x, "sign", 7, 1);
    }

    private static void signNoSuchOnes() {
        bounds.promise(28, "NONE: no such ones");
        CubicSigns x = pair(2, 3, 2, 0);
        bounds.noSuchDrawer(NONE, 0, x, "sign", 0, 1);
        bounds.noSuchDrawer(NONE, 1, x, "sign", 0, 1);
    }

    // ---- promise 29

    private static void turnedAs(int want, int na, int nb, int ma, int mb) {
        CubicSigns x = pair(na, nb, ma, mb);
        bounds.same("turned of " + na + ", " + nb + " and " + ma + ", " + mb, x.turned(0, 1), want);
    }

    private static void turned() {
        turnedAlikeBothWays();
        turnedNotPrimary();
        turnedUnits();
        turnedNotPrimeTo();
        turnedEmpty();
        turnedNoSuchOnes();
    }

    private static void turnedAlikeBothWays() {
        bounds.promise(29, "three times THE SIGN of d's by e's and that of e's by d's, together");
        turnedAs(0, 2, 0, 5, 0);
        turnedAs(4, 2, 0, 2, 3);
        turnedAs(4, 2, 3, 2, 0);
        turnedAs(8, 2, 0, -1, -3);
        turnedAs(8, -1, -3, 2, 0);
    }

    private static void turnedNotPrimary() {
        bounds.promise(29, "-3: they are not so (both PRIMARY)");
        turnedAs(-3, 3, 1, 2, 0);
        turnedAs(-3, 2, 0, 3, 1);
        turnedAs(-3, -2, 0, 5, 0);
        turnedAs(-3, 5, 0, -2, 0);
        turnedAs(-3, 0, 0, 2, 0);
        turnedAs(-3, 2, 0, 0, 0);
        turnedAs(-3, 0, 0, 0, 0);
        turnedAs(-3, 3, 0, 2, 0);
    }

    private static void turnedUnits() {
        bounds.promise(29, "-3: they are not so (no UNITS)");
        // -1 is PRIMARY
        turnedAs(-3, -1, 0, 2, 0);
        turnedAs(-3, 2, 0, -1, 0);
        turnedAs(-3, -1, 0, -1, 0);
        turnedAs(-3, 1, 0, 2, 0);
    }

    private static void turnedNotPrimeTo() {
        bounds.promise(29, "-3: they are not so (PRIME TO each other)");
        turnedAs(-3, 2, 0, 2, 0);
        turnedAs(-3, 2, 0, 8, 0);
        turnedAs(-3, 20, 0, 5, 0);
        turnedAs(-3, 14, 0, 2, 3);
    }

    private static void turnedEmpty() {
        bounds.promise(29, "-2: one is empty");
        CubicSigns x = pair(2, 3, 0, 0);
        bounds.due(-2, x, "turned", 0, 7);
        bounds.due(-2, x, "turned", 7, 0);
        bounds.due(-2, x, "turned", 7, 1);
    }

    private static void turnedNoSuchOnes() {
        bounds.promise(29, "NONE: no such ones");
        CubicSigns x = pair(2, 3, 2, 0);
        bounds.noSuchDrawer(NONE, 0, x, "turned", 0, 1);
        bounds.noSuchDrawer(NONE, 1, x, "turned", 0, 1);
    }

    // ---- promise 30

    private static void supplement() {
        supplementEach();
        supplementUnfit();
        supplementEmpty();
        supplementNoSuchOnes();
    }

    private static void supplementEach() {
        bounds.promise(30, "THE SIGN of w (which 0), of 1 - w (1), of 3 (2), of 2 (3)");
        int[] byTwo = {1, 2, 0, 3};
        int[] bySeven = {2, 2, 2, 1};
        for (int which = 0; which < 4; which++) {
            bounds.due(byTwo[which], Bounds.with(2, 0), "supplement", 0, which);
            bounds.due(bySeven[which], Bounds.with(2, 3), "supplement", 0, which);
            bounds.due((byTwo[which] + byTwo[which]) % 3 + (which == 3 ? 3 : 0), Bounds.with(4, 0), "supplement", 0, which);
        }
    }

    private static void supplementUnfit() {
        bounds.promise(30, "-3: by 0, a UNIT, one of THREE");
        for (int[] m : UNFIT) {
            for (int which = 0; which < 4; which++) {
                bounds.due(-3, Bounds.with(m), "supplement", 0, which);
            }
        }
    }

    private static void supplementEmpty() {
        bounds.promise(30, "-2: empty");
        for (int which = 0; which < 4; which++) {
            bounds.due(-2, Bounds.with(2, 3), "supplement", 7, which);
        }
    }

    private static void supplementNoSuchOnes() {
        bounds.promise(30, "NONE: no such ones");
        CubicSigns x = Bounds.with(2, 3);
        bounds.noSuchDrawer(NONE, 0, x, "supplement", 0, 0);
        bounds.outside(NONE, 0, 3, 1, x, "supplement", 0, 0);
    }

    // ---- promise 31

    private static void prime() {
        primeFirstAndLast();
        primeSplit();
        primeForm();
        primeCubes();
        primeLeastCubeAndNone();
        primeNoSuchPrime();
        primeNoSuchWhat();
    }

    private static void primeAs(int p, int... want) {
        CubicSigns x = new CubicSigns();
        for (int what = 0; what < 8; what++) {
            bounds.due(want[what], x, "prime", p, what);
        }
    }

    private static void primeFirstAndLast() {
        bounds.terms("a whole PRIME p of 7 to 997, p - 1 divided by 3");
        primeAs(7, 2, 3, 1, 1, 0, 0, 6, 2);
        primeAs(13, -1, 3, -5, 1, 0, 0, 5, 2);
        primeAs(997, 23, 36, 10, 12, 1, 1, 2, 7);
    }

    private static void primeSplit() {
        bounds.terms("SPLIT: the PRIMARY NUMBER of NORM p with b above 0");
        CubicSigns x = new CubicSigns();
        for (int p = 7; p <= 997; p++) {
            if (Oracle.third(p)) {
                int a = x.prime(p, 0);
                int b = x.prime(p, 1);
                bounds.same("NORM of SPLIT " + p, a * a - a * b + b * b, p);
                bounds.same("b above 0 of " + p, b > 0 && b % 3 == 0 ? 1 : 0, 1);
                bounds.same("a of " + p, Math.floorMod(a, 3), 2);
            }
        }
    }

    private static void primeForm() {
        bounds.terms("FORM: .. L one more than what is divided by 3 (.., -2, 1, 4, ..), M above 0");
        CubicSigns x = new CubicSigns();
        for (int p = 7; p <= 997; p++) {
            if (Oracle.third(p)) {
                int l = x.prime(p, 2);
                int m = x.prime(p, 3);
                bounds.same("4 times " + p, l * l + 27 * m * m, 4 * p);
                bounds.same("L of " + p, Math.floorMod(l, 3), 1);
                bounds.same("M of " + p, m > 0 ? 1 : 0, 1);
            }
        }
    }

    private static void primeCubes() {
        bounds.terms("A whole n is a CUBE by p: some whole number to the third, less n, is divided by p");
        CubicSigns x = new CubicSigns();
        // by 31 and 43 two is one: p is a square and 27 squares
        bounds.due(1, x, "prime", 31, 4);
        bounds.due(1, x, "prime", 43, 4);
        bounds.due(0, x, "prime", 37, 4);
        bounds.due(1, x, "prime", 61, 5);
        bounds.due(1, x, "prime", 67, 5);
        bounds.due(0, x, "prime", 31, 5);
    }

    private static void primeLeastCubeAndNone() {
        bounds.promise(31, "6 the least whole number above 1 that is a CUBE, 7 the least that is none");
        CubicSigns x = new CubicSigns();
        for (int p = 7; p <= 997; p++) {
            if (Oracle.third(p)) {
                int cube = 2;
                while (!Oracle.cube(cube, p)) {
                    cube++;
                }
                int none = 2;
                while (Oracle.cube(none, p)) {
                    none++;
                }
                bounds.due(cube, x, "prime", p, 6);
                bounds.due(none, x, "prime", p, 7);
                if (x.prime(p, 6) >= 8) {
                    // 8 is a cube always
                    bounds.same("the least cube by " + p, x.prime(p, 6), 8);
                }
            }
            if (p % 200 == 0) {
                x = new CubicSigns();
            }
        }
    }

    private static void primeNoSuchPrime() {
        bounds.promise(31, "Integer.MIN_VALUE: no such p");
        for (int p : NO_THIRDS) {
            CubicSigns x = new CubicSigns();
            for (int what = 0; what < 8; what++) {
                bounds.due(NO, x, "prime", p, what);
            }
        }
    }

    private static void primeNoSuchWhat() {
        bounds.promise(31, "Integer.MIN_VALUE: .. no such what");
        bounds.outside(NO, 0, 7, 1, new CubicSigns(), "prime", 7, 0);
        bounds.outside(NO, 0, 7, 1, new CubicSigns(), "prime", 997, 0);
    }

    // ---- promise 32

    private static void sum() {
        sumFirstAndLast();
        sumNorm();
        sumPoints();
        sumNoSuchOnes();
    }

    private static void sumFirstAndLast() {
        bounds.terms("THE SUM of p: of all whole t from 2 to p - 1");
        int[] primes = {7, 13, 19, 31, 37, 991, 997};
        CubicSigns x = new CubicSigns();
        for (int p : primes) {
            Oracle.Z want = Oracle.sum(p);
            bounds.due(want.a(), x, "sum", p, 0);
            bounds.due(want.b(), x, "sum", p, 1);
        }
    }

    private static void sumNorm() {
        bounds.promise(32, "THE SUM of p, .. 2 its NORM");
        CubicSigns x = new CubicSigns();
        bounds.due(7, x, "sum", 7, 2);
        bounds.due(13, x, "sum", 13, 2);
        bounds.due(997, x, "sum", 997, 2);
    }

    private static void sumPoints() {
        bounds.terms("POINTS of p: twos x, y of 0 to p - 1 with x x x + y y y less 1 divided by p");
        int[] primes = {7, 13, 19, 31, 61, 991, 997};
        CubicSigns x = new CubicSigns();
        for (int p : primes) {
            bounds.due(Oracle.points(p), x, "sum", p, 3);
        }
        bounds.due(6, x, "sum", 7, 3);
    }

    private static void sumNoSuchOnes() {
        bounds.promise(32, "Integer.MIN_VALUE: no such ones");
        for (int p : NO_THIRDS) {
            CubicSigns x = new CubicSigns();
            for (int what = 0; what < 4; what++) {
                bounds.due(NO, x, "sum", p, what);
            }
        }
        bounds.outside(NO, 0, 3, 1, new CubicSigns(), "sum", 7, 0);
    }

    // ---- promise 33

    private static void split() {
        splitFirstAndLast();
        splitNoSuchPrime();
        splitNoSuchDrawer();
    }

    private static void splitFirstAndLast() {
        bounds.promise(33, "SPLIT of p comes into DRAWER d: its b");
        CubicSigns x = Bounds.with(9, 9);
        bounds.due(3, x, "split", 7, 0);
        bounds.holds(x, 0, 2, 3);
        bounds.due(36, x, "split", 997, 7);
        bounds.holds(x, 7, 23, 36);
        bounds.due(129, x, "count", 0);
    }

    private static void splitNoSuchPrime() {
        bounds.promise(33, "NONE: no such ones (p)");
        CubicSigns x = Bounds.with(9, 9);
        for (int p : NO_THIRDS) {
            bounds.due(NONE, x, "split", p, 0);
        }
        bounds.holds(x, 0, 9, 9);
    }

    private static void splitNoSuchDrawer() {
        bounds.promise(33, "NONE: no such ones (DRAWERS)");
        CubicSigns x = Bounds.with(9, 9);
        bounds.noSuchDrawer(NONE, 1, x, "split", 7, 0);
        bounds.due(1, x, "count", 0);
        bounds.holds(x, 0, 9, 9);
    }

    // ---- promise 34

    private static void thirds() {
        thirdsFirstAndLast();
        thirdsHowMany();
        thirdsNotSoMany();
        thirdsBelowNone();
    }

    private static void thirdsFirstAndLast() {
        bounds.promise(34, "The k-th (from 0) whole PRIME of 7 to 997 with p - 1 divided by 3");
        CubicSigns x = new CubicSigns();
        int k = 0;
        for (int p = 0; p <= 1100; p++) {
            if (Oracle.third(p)) {
                bounds.due(p, x, "thirds", k);
                k++;
            }
        }
        bounds.same("how many came", k, 80);
        bounds.due(7, x, "thirds", 0);
        bounds.due(997, x, "thirds", 79);
    }

    private static void thirdsHowMany() {
        bounds.promise(34, "k NONE: how many there are");
        bounds.due(80, new CubicSigns(), "thirds", NONE);
    }

    private static void thirdsNotSoMany() {
        bounds.promise(34, "-2: not so many");
        CubicSigns x = new CubicSigns();
        bounds.due(-2, x, "thirds", 80);
        bounds.due(-2, x, "thirds", 81);
        bounds.due(-2, x, "thirds", Integer.MAX_VALUE);
    }

    private static void thirdsBelowNone() {
        bounds.promise(34, "-3: k below NONE");
        CubicSigns x = new CubicSigns();
        bounds.due(-3, x, "thirds", -2);
        bounds.due(-3, x, "thirds", -3);
        bounds.due(-3, x, "thirds", Integer.MIN_VALUE);
    }

    // ---- promise 35

    private static void primeAt() {
        primeAtFirst();
        primeAtLast();
        primeAtOfNoneAny();
        primeAtNoSuchOnes();
    }

    private static void primeAtAs(CubicSigns x, int k, int a, int b, int norm) {
        bounds.due(a, x, "primeAt", k, 0);
        bounds.due(b, x, "primeAt", k, 1);
        bounds.due(norm, x, "primeAt", k, 2);
    }

    private static void primeAtFirst() {
        bounds.promise(35, "by NORM, of like NORM by b: the k-th (from 0)");
        CubicSigns x = new CubicSigns();
        primeAtAs(x, 0, 2, 0, 4);
        primeAtAs(x, 1, -1, -3, 7);
        primeAtAs(x, 2, 2, 3, 7);
        primeAtAs(x, 7, 5, 0, 25);
    }

    private static void primeAtLast() {
        bounds.promise(35, "PRIMARY PRIMES of NORM 2000 at most");
        CubicSigns x = new CubicSigns();
        primeAtAs(x, 301, 5, -42, 1999);
        primeAtAs(x, 302, 47, 42, 1999);
        primeAtAs(x, 303, NO, NO, NO);
    }

    private static void primeAtOfNoneAny() {
        bounds.promise(35, "k NONE: how many (of NONE any what)");
        CubicSigns x = new CubicSigns();
        int[] any = {-1, 0, 1, 2, 3, Integer.MIN_VALUE, Integer.MAX_VALUE};
        for (int what : any) {
            bounds.due(303, x, "primeAt", NONE, what);
        }
    }

    private static void primeAtNoSuchOnes() {
        bounds.promise(35, "Integer.MIN_VALUE: no such ones");
        CubicSigns x = new CubicSigns();
        bounds.outside(NO, 0, 2, 1, x, "primeAt", 0, 0);
        bounds.outside(NO, 0, 2, 1, x, "primeAt", 302, 0);
        bounds.due(NO, x, "primeAt", -2, 0);
        bounds.due(NO, x, "primeAt", Integer.MIN_VALUE, 0);
        bounds.due(NO, x, "primeAt", 303, 0);
        bounds.due(NO, x, "primeAt", Integer.MAX_VALUE, 0);
    }

    // ---- promise 36

    private static void crowd() {
        crowdFewAndMany();
        crowdWhat();
        crowdDivided();
        crowdEmpty();
        crowdNoSuchOnes();
    }

    private static void crowdFewAndMany() {
        bounds.promise(36, "how many of the first of these (1 to 100)");
        CubicSigns x = Bounds.with(0, 1);
        // w by 2 is w's class
        bounds.due(1, x, "crowd", 0, 1, 1);
        bounds.due(0, x, "crowd", 0, 1, 2);
        bounds.due(2, x, "crowd", 0, 3, 2);
        int all = x.crowd(0, 100, 0) + x.crowd(0, 100, 1) + x.crowd(0, 100, 2) + x.crowd(0, 100, 3);
        bounds.same("all hundred", all, 100);
        bounds.outside(NONE, 1, 100, 1, x, "crowd", 0, 1, 0);
    }

    private static void crowdWhat() {
        bounds.promise(36, "THE SIGN of a DRAWER's is what (0 to 3)");
        CubicSigns x = Bounds.with(1, 0, 0, 0);
        int[] ofOne = {100, 0, 0, 0};
        int[] ofNought = {0, 0, 0, 100};
        for (int what = 0; what < 4; what++) {
            bounds.due(ofOne[what], x, "crowd", 0, 100, what);
            bounds.due(ofNought[what], x, "crowd", 1, 100, what);
        }
        bounds.outside(NONE, 0, 3, 2, x, "crowd", 0, 1, 0);
    }

    private static void crowdDivided() {
        bounds.promise(36, "the last of the first hundred is counted, the next one is not");
        CubicSigns x = new CubicSigns();
        x.put(0, x.primeAt(99, 0), x.primeAt(99, 1));
        x.put(1, x.primeAt(100, 0), x.primeAt(100, 1));
        x.put(2, 2, 0);
        bounds.due(1, x, "crowd", 0, 100, 3);
        bounds.due(0, x, "crowd", 0, 99, 3);
        bounds.due(0, x, "crowd", 1, 100, 3);
        bounds.due(1, x, "crowd", 2, 1, 3);
    }

    private static void crowdEmpty() {
        bounds.promise(36, "-2: empty");
        CubicSigns x = Bounds.with(1, 0);
        for (int what = 0; what < 4; what++) {
            bounds.due(-2, x, "crowd", 7, 1, what);
            bounds.due(-2, x, "crowd", 7, 100, what);
        }
    }

    private static void crowdNoSuchOnes() {
        bounds.promise(36, "NONE: no such ones");
        CubicSigns x = Bounds.with(1, 0);
        bounds.noSuchDrawer(NONE, 0, x, "crowd", 0, 1, 0);
    }
}
