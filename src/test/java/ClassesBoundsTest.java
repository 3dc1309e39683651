/** Boundary cases of the classes by a number: promises 13 to 27, and the terms they stand on. */
public final class ClassesBoundsTest {
    private static final int NO = Bounds.NO;
    private static final int NONE = Bounds.NONE;
    /** 1999 is the greatest norm up to 2000, 2007 the least beyond; of 500 they are 499 and 507. */
    private static final int[] NORM_1999 = {42, -5};
    private static final int[] NORM_2007 = {33, -18};
    private static final int[] NORM_499 = {18, -7};
    private static final int[] NORM_507 = {22, -1};
    private static final int[][] UNITS = {{1, 0}, {1, 1}, {0, 1}, {-1, 0}, {-1, -1}, {0, -1}};
    private static final Bounds bounds = new Bounds("ClassesBoundsTest");

    public static void main(String[] args) {
        residue();
        power();
        inverse();
        classes();
        root();
        linear();
        spread();
        order();
        greatest();
        least();
        both();
        parting();
        partings();
        steps();
        direct();
        bounds.end();
    }

    private static CubicSigns pair(int na, int nb, int ma, int mb) {
        return Bounds.with(na, nb, ma, mb);
    }

    private static CubicSigns pair(int na, int nb, int[] m) {
        return Bounds.with(na, nb, m[0], m[1]);
    }

    // ---- promise 13

    private static void residue() {
        residueOfOneRow();
        residueOfSomeRows();
        residueByWhole();
        residueByUnit();
        residueByGreatest();
        residueByNought();
        residueEmpty();
        residueNoSuchOnes();
    }

    private static void residueAs(int na, int nb, int ma, int mb, int x, int y) {
        CubicSigns c = pair(na, nb, ma, mb);
        bounds.same("x of " + na + ", " + nb + " by " + ma + ", " + mb, c.residue(0, 1, 0), x);
        bounds.same("y of " + na + ", " + nb + " by " + ma + ", " + mb, c.residue(0, 1, 1), y);
    }

    private static void residueOfOneRow() {
        bounds.terms("RESIDUE of n: .. x 0 to NORM by g, less 1 (g 1)");
        // w is of 4's class
        residueAs(0, 0, 2, 3, 0, 0);
        residueAs(6, 0, 2, 3, 6, 0);
        residueAs(7, 0, 2, 3, 0, 0);
        residueAs(-1, 0, 2, 3, 6, 0);
        residueAs(0, 1, 2, 3, 4, 0);
        residueAs(0, -1, 2, 3, 3, 0);
        residueAs(2, 3, 2, 3, 0, 0);
    }

    private static void residueOfSomeRows() {
        bounds.terms("RESIDUE of n: .. y 0 to g - 1, x 0 to NORM by g, less 1 (g 2)");
        // 2 w is of 8's class
        residueAs(13, 1, 4, 6, 13, 1);
        residueAs(14, 1, 4, 6, 0, 1);
        residueAs(14, 0, 4, 6, 0, 0);
        residueAs(0, 2, 4, 6, 8, 0);
        residueAs(0, -1, 4, 6, 6, 1);
        residueAs(-1, 0, 4, 6, 13, 0);
        residueAs(4, 6, 4, 6, 0, 0);
    }

    private static void residueByWhole() {
        bounds.terms("RESIDUE by a whole number");
        int[][] moduli = {{6, 0}, {-6, 0}, {0, 6}, {0, -6}, {6, 6}, {-6, -6}};
        for (int[] m : moduli) {
            residueAs(5, 5, m[0], m[1], 5, 5);
            residueAs(6, 6, m[0], m[1], 0, 0);
            residueAs(-1, -1, m[0], m[1], 5, 5);
            residueAs(9999, -9999, m[0], m[1], 3, 3);
        }
    }

    private static void residueByUnit() {
        bounds.terms("RESIDUE by a UNIT: 0 alone");
        for (int[] u : UNITS) {
            residueAs(9999, -9999, u[0], u[1], 0, 0);
            residueAs(1, 0, u[0], u[1], 0, 0);
            residueAs(0, 0, u[0], u[1], 0, 0);
        }
    }

    private static void residueByGreatest() {
        bounds.terms("RESIDUE by the greatest NORMS");
        // 9999 w is of 9999's class
        residueAs(9999, 0, 9999, -9999, 9999, 0);
        residueAs(-1, 0, 9999, -9999, 29996, 0);
        residueAs(0, 9998, 9999, -9999, 0, 9998);
        residueAs(0, 9999, 9999, -9999, 9999, 0);
        residueAs(0, -1, 9999, -9999, 19998, 9998);
        residueAs(-1, 0, 9999, 9998, 99970002, 0);
        residueAs(9999, 9998, 9999, 9998, 0, 0);
    }

    private static void residueByNought() {
        bounds.promise(13, "-3: by 0");
        for (int what = 0; what < 2; what++) {
            bounds.due(-3, pair(5, 3, 0, 0), "residue", 0, 1, what);
            bounds.due(-3, pair(0, 0, 0, 0), "residue", 0, 1, what);
            bounds.due(0, pair(0, 0, 5, 3), "residue", 0, 1, what);
        }
    }

    private static void residueEmpty() {
        bounds.promise(13, "-2: one is empty");
        CubicSigns x = pair(5, 3, 0, 0);
        bounds.due(-2, x, "residue", 0, 7, 0);
        bounds.due(-2, x, "residue", 7, 0, 0);
        bounds.due(-2, x, "residue", 7, 1, 1);
        bounds.due(-2, x, "residue", 7, 7, 1);
    }

    private static void residueNoSuchOnes() {
        bounds.promise(13, "NONE: no such ones");
        CubicSigns x = pair(5, 3, 2, 3);
        bounds.noSuchDrawer(NONE, 0, x, "residue", 0, 1, 0);
        bounds.noSuchDrawer(NONE, 1, x, "residue", 0, 1, 0);
        bounds.outside(NONE, 0, 1, 2, x, "residue", 0, 1, 0);
    }

    // ---- promise 14

    private static void power() {
        powerToTheNought();
        powerOfNought();
        powerHighest();
        powerByGreatest();
        powerByNought();
        powerEmpty();
        powerNoSuchOnes();
    }

    private static void powerAs(int na, int nb, int k, int ma, int mb, int x, int y) {
        CubicSigns c = pair(na, nb, ma, mb);
        bounds.same("x of " + na + ", " + nb + " to the " + k + " by " + ma + ", " + mb, c.power(0, k, 1, 0), x);
        bounds.same("y of " + na + ", " + nb + " to the " + k + " by " + ma + ", " + mb, c.power(0, k, 1, 1), y);
    }

    private static void powerToTheNought() {
        bounds.terms("POWER: .. (k .. 0: of 1)");
        powerAs(5, 3, 0, 2, 3, 1, 0);
        powerAs(0, 0, 0, 2, 3, 1, 0);
        powerAs(2, 3, 0, 2, 3, 1, 0);
        powerAs(5, 3, 0, 6, 0, 1, 0);
        powerAs(5, 3, 0, 0, 1, 0, 0);
    }

    private static void powerOfNought() {
        bounds.terms("POWER of 0");
        powerAs(0, 0, 1, 2, 3, 0, 0);
        powerAs(0, 0, 1000000000, 6, 0, 0, 0);
        powerAs(7, 0, 1, 2, 3, 0, 0);
    }

    private static void powerHighest() {
        bounds.terms("POWER: .. (k 0 to 1000000000");
        powerAs(3, 0, 1, 2, 3, 3, 0);
        powerAs(3, 0, 2, 2, 3, 2, 0);
        powerAs(3, 0, 999999999, 2, 3, 6, 0);
        powerAs(3, 0, 1000000000, 2, 3, 4, 0);
        powerAs(0, 1, 1000000000, 6, 0, 0, 1);
        powerAs(0, 1, 999999998, 6, 0, 5, 5);
        CubicSigns x = pair(3, 0, 2, 3);
        bounds.outside(NONE, 0, 1000000000, 1, x, "power", 0, 0, 1, 0);
    }

    private static void powerByGreatest() {
        bounds.terms("POWER by the greatest NORMS");
        int[][] moduli = {{9999, -9999}, {9999, 9998}, {9999, -9998}, {-9998, 9999}, {9887, 0}};
        for (int[] m : moduli) {
            CubicSigns c = pair(9999, -9997, m);
            Oracle.Z by = new Oracle.Z(m[0], m[1]);
            Oracle.Z got = new Oracle.Z(c.power(0, 1000000000, 1, 0), c.power(0, 1000000000, 1, 1));
            Oracle.Z want = Oracle.power(new Oracle.Z(9999, -9997), 1000000000, by);
            bounds.same("a power by " + by, Oracle.divides(by, got.minus(want)) ? 1 : 0, 1);
        }
    }

    private static void powerByNought() {
        bounds.promise(14, "as above (-3: by 0)");
        bounds.due(-3, pair(5, 3, 0, 0), "power", 0, 2, 1, 0);
        bounds.due(-3, pair(5, 3, 0, 0), "power", 0, 0, 1, 1);
    }

    private static void powerEmpty() {
        bounds.promise(14, "as above (-2: one is empty)");
        CubicSigns x = pair(5, 3, 0, 0);
        bounds.due(-2, x, "power", 0, 2, 7, 0);
        bounds.due(-2, x, "power", 7, 2, 0, 0);
        bounds.due(-2, x, "power", 7, 2, 1, 1);
    }

    private static void powerNoSuchOnes() {
        bounds.promise(14, "as above (NONE: no such ones)");
        CubicSigns x = pair(5, 3, 2, 3);
        bounds.noSuchDrawer(NONE, 0, x, "power", 0, 1, 1, 0);
        bounds.noSuchDrawer(NONE, 2, x, "power", 0, 1, 1, 0);
        bounds.outside(NONE, 0, 1, 3, x, "power", 0, 1, 1, 0);
    }

    // ---- promise 15

    private static void inverse() {
        inverseOfFirstAndLast();
        inverseNone();
        inverseByUnit();
        inverseByGreatest();
        inverseByNought();
        inverseEmpty();
        inverseNoSuchOnes();
    }

    private static void inverseAs(int na, int nb, int ma, int mb, int x, int y) {
        CubicSigns c = pair(na, nb, ma, mb);
        bounds.same("x by " + na + ", " + nb + " by " + ma + ", " + mb, c.inverse(0, 1, 0), x);
        bounds.same("y by " + na + ", " + nb + " by " + ma + ", " + mb, c.inverse(0, 1, 1), y);
    }

    private static void inverseOfFirstAndLast() {
        bounds.terms("INVERSE: RESIDUE of the class that times n is of 1's");
        inverseAs(1, 0, 2, 3, 1, 0);
        inverseAs(6, 0, 2, 3, 6, 0);
        inverseAs(3, 0, 2, 3, 5, 0);
        inverseAs(0, 1, 6, 0, 5, 5);
        inverseAs(5, 0, 6, 0, 5, 0);
        inverseAs(-1, 0, 6, 0, 5, 0);
    }

    private static void inverseNone() {
        bounds.promise(15, "-4: there is none");
        int[][] rows = {{0, 0, 2, 3}, {7, 0, 2, 3}, {2, 3, 2, 3}, {3, 0, 6, 0}, {1, -1, 6, 0}, {2, 0, 6, 0}, {0, 0, 6, 0}};
        for (int[] row : rows) {
            bounds.due(-4, Bounds.with(row), "inverse", 0, 1, 0);
            bounds.due(-4, Bounds.with(row), "inverse", 0, 1, 1);
        }
    }

    private static void inverseByUnit() {
        bounds.promise(15, "by a UNIT there is one class alone");
        for (int[] u : UNITS) {
            inverseAs(0, 0, u[0], u[1], 0, 0);
            inverseAs(5, 3, u[0], u[1], 0, 0);
        }
    }

    private static void inverseByGreatest() {
        bounds.promise(15, "INVERSE by the greatest NORMS");
        int[][] moduli = {{9999, -9999}, {9999, 9998}, {9999, -9998}, {-9998, 9999}, {9887, 0}};
        for (int[] m : moduli) {
            CubicSigns c = pair(2, 0, m);
            Oracle.Z by = new Oracle.Z(m[0], m[1]);
            Oracle.Z got = new Oracle.Z(c.inverse(0, 1, 0), c.inverse(0, 1, 1));
            Oracle.Z rest = got.times(new Oracle.Z(2, 0)).minus(Oracle.ONE);
            bounds.same("an inverse by " + by, Oracle.divides(by, rest) ? 1 : 0, 1);
            bounds.same("x is a residue's", got.a() >= 0 && got.a() < by.norm() ? 1 : 0, 1);
        }
    }

    private static void inverseByNought() {
        bounds.promise(15, "as above (-3: by 0)");
        bounds.due(-3, pair(5, 3, 0, 0), "inverse", 0, 1, 0);
        bounds.due(-3, pair(0, 0, 0, 0), "inverse", 0, 1, 1);
        bounds.due(-3, pair(1, 1, 0, 0), "inverse", 0, 1, 1);
    }

    private static void inverseEmpty() {
        bounds.promise(15, "as above (-2: one is empty)");
        CubicSigns x = pair(5, 3, 0, 0);
        bounds.due(-2, x, "inverse", 0, 7, 0);
        bounds.due(-2, x, "inverse", 7, 0, 0);
        bounds.due(-2, x, "inverse", 7, 1, 1);
    }

    private static void inverseNoSuchOnes() {
        bounds.promise(15, "as above (NONE: no such ones)");
        CubicSigns x = pair(5, 3, 2, 3);
        bounds.noSuchDrawer(NONE, 0, x, "inverse", 0, 1, 0);
        bounds.noSuchDrawer(NONE, 1, x, "inverse", 0, 1, 0);
        bounds.outside(NONE, 0, 1, 2, x, "inverse", 0, 1, 0);
    }

    // ---- promise 16

    private static void classes() {
        classesOfUnit();
        classesOfTheLimit();
        classesBeyondTheLimit();
        classesNought();
        classesEmpty();
        classesNoSuchOnes();
        cubesArePrimeTo();
    }

    private static void classesAs(int a, int b, long all, long primeTo, long cubes) {
        CubicSigns x = Bounds.with(a, b);
        bounds.due(all, x, "classes", 0, 0);
        bounds.due(primeTo, x, "classes", 0, 1);
        bounds.due(cubes, x, "classes", 0, 2);
    }

    private static void classesOfUnit() {
        bounds.promise(16, "by a UNIT there is one class alone");
        for (int[] u : UNITS) {
            classesAs(u[0], u[1], 1, 1, 1);
        }
    }

    private static void classesOfTheLimit() {
        bounds.terms("CUBES by m (NORM 2000 at most)");
        classesAs(42, -5, 1999, 1998, 666);
        classesAs(-5, 42, 1999, 1998, 666);
    }

    private static void classesBeyondTheLimit() {
        bounds.promise(16, "-3: .. of 1 and 2 NORM above 2000");
        classesAs(33, -18, 2007, -3, -3);
        classesAs(45, 0, 2025, -3, -3);
        classesAs(9999, -9999, 299940003, -3, -3);
    }

    private static void classesNought() {
        bounds.promise(16, "-3: 0");
        classesAs(0, 0, -3, -3, -3);
    }

    private static void classesEmpty() {
        bounds.promise(16, "-2: empty");
        for (int what = 0; what < 3; what++) {
            bounds.due(-2, Bounds.with(1, 1), "classes", 7, what);
        }
    }

    private static void classesNoSuchOnes() {
        bounds.promise(16, "NONE: no such ones");
        CubicSigns x = Bounds.with(2, 3);
        bounds.noSuchDrawer(NONE, 0, x, "classes", 0, 0);
        bounds.outside(NONE, 0, 2, 1, x, "classes", 0, 0);
    }

    private static void cubesArePrimeTo() {
        bounds.terms("CUBES by m: classes that are PRIME TO m and some class to the third");
        classesAs(1, -1, 3, 2, 2);
        classesAs(3, 0, 9, 6, 2);
        classesAs(2, 0, 4, 3, 1);
        classesAs(2, 3, 7, 6, 2);
        classesAs(6, 0, 36, 18, 2);
        classesAs(7, 0, 49, 36, 4);
        classesAs(4, 0, 16, 12, 4);
        classesAs(9, 0, 81, 54, Oracle.cubes(new Oracle.Z(9, 0)));
    }

    // ---- promise 17

    private static void root() {
        rootsByTheLimit();
        rootsByUnit();
        rootsByRows();
        rootNotSoMany();
        rootOfNoneAny();
        rootUnfit();
        rootEmpty();
        rootNoSuchOnes();
    }

    private static void rootsByTheLimit() {
        bounds.terms("ROOTS of n by m (NORM 2000 at most)");
        CubicSigns x = Bounds.with(1, 0, NORM_1999[0], NORM_1999[1], 0, 0, NORM_2007[0], NORM_2007[1]);
        bounds.due(3, x, "root", 0, 1, NONE, 0);
        bounds.due(1, x, "root", 0, 1, 0, 0);
        bounds.due(1, x, "root", 2, 1, NONE, 0);
        bounds.due(0, x, "root", 2, 1, 0, 0);
        bounds.due(-3, x, "root", 0, 3, NONE, 0);
        bounds.due(-3, x, "root", 0, 3, 0, 0);
    }

    private static void rootsByUnit() {
        bounds.terms("ROOTS by a UNIT");
        for (int[] u : UNITS) {
            CubicSigns x = pair(5, 3, u);
            bounds.due(1, x, "root", 0, 1, NONE, 0);
            bounds.due(0, x, "root", 0, 1, 0, 0);
            bounds.due(0, x, "root", 0, 1, 0, 1);
            bounds.due(-4, x, "root", 0, 1, 1, 0);
        }
    }

    private static void rootsByRows() {
        bounds.terms("ROOTS: .. by y, then x");
        int[][] byTwo = {{1, 0}, {0, 1}, {1, 1}};
        int[][] byThree = {{0, 0}, {2, 1}, {1, 2}};
        CubicSigns x = Bounds.with(1, 0, 2, 0, 0, 0, 3, 0);
        for (int k = 0; k < 3; k++) {
            for (int what = 0; what < 2; what++) {
                bounds.due(byTwo[k][what], x, "root", 0, 1, k, what);
                bounds.due(byThree[k][what], x, "root", 2, 3, k, what);
            }
        }
    }

    private static void rootNotSoMany() {
        bounds.promise(17, "-4: not so many");
        CubicSigns x = Bounds.with(1, 0, 2, 3, 2, 0);
        bounds.due(3, x, "root", 0, 1, NONE, 0);
        bounds.due(4, x, "root", 0, 1, 2, 0);
        bounds.due(-4, x, "root", 0, 1, 3, 0);
        bounds.due(-4, x, "root", 0, 1, Integer.MAX_VALUE, 1);
        // 2 is no cube by 7
        bounds.due(0, x, "root", 2, 1, NONE, 0);
        bounds.due(-4, x, "root", 2, 1, 0, 0);
    }

    private static void rootOfNoneAny() {
        bounds.promise(17, "what 0 x, 1 y (of NONE any)");
        CubicSigns x = Bounds.with(1, 0, 2, 3);
        int[] any = {-1, 0, 1, 2, Integer.MIN_VALUE, Integer.MAX_VALUE};
        for (int what : any) {
            bounds.due(3, x, "root", 0, 1, NONE, what);
        }
        bounds.outside(NONE, 0, 1, 3, x, "root", 0, 1, 0, 0);
    }

    private static void rootUnfit() {
        bounds.promise(17, "-3: 0, NORM above 2000");
        bounds.due(-3, pair(1, 0, 0, 0), "root", 0, 1, NONE, 0);
        bounds.due(-3, pair(1, 0, 0, 0), "root", 0, 1, 0, 0);
        bounds.due(-3, pair(1, 0, NORM_2007), "root", 0, 1, NONE, 0);
        bounds.due(-3, pair(1, 0, NORM_2007), "root", 0, 1, 9999, 0);
        bounds.due(-3, pair(1, 0, 9999, -9999), "root", 0, 1, NONE, 0);
        // d's may be beyond
        bounds.due(3, pair(9997, 0, 2, 3), "root", 0, 1, NONE, 0);
        bounds.due(0, pair(9999, 0, 2, 3), "root", 0, 1, NONE, 0);
    }

    private static void rootEmpty() {
        bounds.promise(17, "-2: one is empty");
        CubicSigns x = pair(1, 0, 0, 0);
        bounds.due(-2, x, "root", 0, 7, NONE, 0);
        bounds.due(-2, x, "root", 7, 0, NONE, 0);
        bounds.due(-2, x, "root", 7, 1, 0, 0);
    }

    private static void rootNoSuchOnes() {
        bounds.promise(17, "NONE: no such ones (k below NONE)");
        CubicSigns x = pair(1, 0, 2, 3);
        bounds.noSuchDrawer(NONE, 0, x, "root", 0, 1, 0, 0);
        bounds.noSuchDrawer(NONE, 1, x, "root", 0, 1, NONE, 0);
        bounds.due(NONE, x, "root", 0, 1, -2, 0);
        bounds.due(NONE, x, "root", 0, 1, Integer.MIN_VALUE, 0);
    }

    // ---- promise 18

    private static void linear() {
        linearByTheLimit();
        linearByUnit();
        linearByRows();
        linearNotSoMany();
        linearOfNoneAny();
        linearUnfit();
        linearEmpty();
        linearNoSuchOnes();
    }

    private static CubicSigns three(int na, int nb, int ea, int eb, int[] m) {
        return Bounds.with(na, nb, ea, eb, m[0], m[1]);
    }

    private static void linearByTheLimit() {
        bounds.promise(18, "RESIDUES by f's (NORM 2000 at most)");
        CubicSigns all = three(0, 0, 0, 0, NORM_1999);
        bounds.due(1999, all, "linear", 0, 1, 2, NONE, 0);
        bounds.due(1998, all, "linear", 0, 1, 2, 1998, 0);
        bounds.due(-4, all, "linear", 0, 1, 2, 1999, 0);
        bounds.due(1, three(9999, -9999, 1, 0, NORM_1999), "linear", 0, 1, 2, NONE, 0);
        bounds.due(-3, three(1, 0, 1, 0, NORM_2007), "linear", 0, 1, 2, NONE, 0);
    }

    private static void linearByUnit() {
        bounds.promise(18, "by a UNIT there is one RESIDUE alone");
        for (int[] u : UNITS) {
            bounds.due(1, three(0, 0, 5, 3, u), "linear", 0, 1, 2, NONE, 0);
            bounds.due(0, three(0, 0, 5, 3, u), "linear", 0, 1, 2, 0, 0);
            bounds.due(-4, three(0, 0, 5, 3, u), "linear", 0, 1, 2, 1, 0);
        }
    }

    private static void linearByRows() {
        bounds.promise(18, "by y, then x");
        CubicSigns x = three(2, 0, 4, 0, new int[] {6, 0});
        int[][] want = {{2, 0}, {5, 0}, {2, 3}, {5, 3}};
        for (int k = 0; k < 4; k++) {
            bounds.due(want[k][0], x, "linear", 0, 1, 2, k, 0);
            bounds.due(want[k][1], x, "linear", 0, 1, 2, k, 1);
        }
    }

    private static void linearNotSoMany() {
        bounds.promise(18, "-4: not so many");
        CubicSigns x = three(2, 0, 4, 0, new int[] {6, 0});
        bounds.due(4, x, "linear", 0, 1, 2, NONE, 0);
        bounds.due(-4, x, "linear", 0, 1, 2, 4, 0);
        bounds.due(-4, x, "linear", 0, 1, 2, Integer.MAX_VALUE, 0);
        CubicSigns none = three(2, 0, 1, 0, new int[] {6, 0});
        bounds.due(0, none, "linear", 0, 1, 2, NONE, 0);
        bounds.due(-4, none, "linear", 0, 1, 2, 0, 0);
        bounds.due(0, three(0, 0, 1, 0, NORM_1999), "linear", 0, 1, 2, NONE, 0);
    }

    private static void linearOfNoneAny() {
        bounds.promise(18, "what 0 x, 1 y (of NONE any)");
        CubicSigns x = three(2, 0, 4, 0, new int[] {6, 0});
        int[] any = {-1, 0, 1, 2, Integer.MIN_VALUE, Integer.MAX_VALUE};
        for (int what : any) {
            bounds.due(4, x, "linear", 0, 1, 2, NONE, what);
        }
        bounds.outside(NONE, 0, 1, 4, x, "linear", 0, 1, 2, 0, 0);
    }

    private static void linearUnfit() {
        bounds.promise(18, "-3: 0, NORM above 2000");
        int[] nought = {0, 0};
        bounds.due(-3, three(1, 0, 1, 0, nought), "linear", 0, 1, 2, NONE, 0);
        bounds.due(-3, three(1, 0, 1, 0, nought), "linear", 0, 1, 2, 0, 0);
        bounds.due(-3, three(0, 0, 0, 0, nought), "linear", 0, 1, 2, NONE, 0);
        bounds.due(-3, three(1, 0, 1, 0, NORM_2007), "linear", 0, 1, 2, 9999, 0);
        bounds.due(1, three(1, 0, 9999, 9999, new int[] {2, 3}), "linear", 0, 1, 2, NONE, 0);
    }

    private static void linearEmpty() {
        bounds.promise(18, "-2: one is empty");
        CubicSigns x = three(1, 0, 1, 0, new int[] {2, 3});
        bounds.due(-2, x, "linear", 7, 1, 2, NONE, 0);
        bounds.due(-2, x, "linear", 0, 7, 2, NONE, 0);
        bounds.due(-2, x, "linear", 0, 1, 7, NONE, 0);
        bounds.due(-2, x, "linear", 7, 7, 7, 0, 0);
    }

    private static void linearNoSuchOnes() {
        bounds.promise(18, "NONE: no such ones (k below NONE)");
        CubicSigns x = three(1, 0, 1, 0, new int[] {2, 3});
        for (int place = 0; place < 3; place++) {
            bounds.noSuchDrawer(NONE, place, x, "linear", 0, 1, 2, NONE, 0);
        }
        bounds.due(NONE, x, "linear", 0, 1, 2, -2, 0);
        bounds.due(NONE, x, "linear", 0, 1, 2, Integer.MIN_VALUE, 0);
    }

    // ---- promise 19

    private static void spread() {
        spreadByTheLimit();
        spreadMany();
        spreadByUnit();
        spreadUnfit();
        spreadEmpty();
        spreadNoSuchOnes();
    }

    private static void spreadByTheLimit() {
        bounds.promise(19, "By a DRAWER's (NORM 2000 at most)");
        CubicSigns x = Bounds.with(NORM_1999);
        bounds.due(1332, x, "spread", 0, 0);
        bounds.due(1, x, "spread", 0, 1);
        bounds.due(0, x, "spread", 0, 2);
        bounds.due(666, x, "spread", 0, 3);
        bounds.due(0, x, "spread", 0, 4);
    }

    private static void spreadMany() {
        bounds.promise(19, "just so many ROOTS (0 to 2000)");
        CubicSigns x = Bounds.with(3, 0, 9, 0);
        bounds.due(6, x, "spread", 0, 0);
        bounds.due(3, x, "spread", 0, 3);
        bounds.due(0, x, "spread", 0, 2000);
        // by 9 its own class has nine roots
        for (int many = 0; many <= 28; many++) {
            bounds.due(Oracle.spread(new Oracle.Z(9, 0), many), x, "spread", 1, many);
        }
        bounds.outside(NONE, 0, 2000, 1, x, "spread", 0, 0);
    }

    private static void spreadByUnit() {
        bounds.promise(19, "by a UNIT one class has one ROOT");
        for (int[] u : UNITS) {
            bounds.due(0, Bounds.with(u), "spread", 0, 0);
            bounds.due(1, Bounds.with(u), "spread", 0, 1);
        }
    }

    private static void spreadUnfit() {
        bounds.promise(19, "-3: 0, NORM above 2000");
        bounds.due(-3, Bounds.with(0, 0), "spread", 0, 0);
        bounds.due(-3, Bounds.with(NORM_2007), "spread", 0, 0);
        bounds.due(-3, Bounds.with(9999, -9999), "spread", 0, 2000);
    }

    private static void spreadEmpty() {
        bounds.promise(19, "-2: empty");
        bounds.due(-2, Bounds.with(2, 3), "spread", 7, 0);
        bounds.due(-2, Bounds.with(2, 3), "spread", 7, 2000);
    }

    private static void spreadNoSuchOnes() {
        bounds.promise(19, "NONE: no such ones");
        CubicSigns x = Bounds.with(2, 3);
        bounds.noSuchDrawer(NONE, 0, x, "spread", 0, 0);
    }

    // ---- promise 20

    private static void order() {
        orderLeast();
        orderByTheLimit();
        orderByUnit();
        orderUnfit();
        orderNotPrimeTo();
        orderEmpty();
        orderNoSuchOnes();
    }

    private static void orderAs(int want, int na, int nb, int... m) {
        CubicSigns x = pair(na, nb, m);
        bounds.same("order of " + na + ", " + nb + " by " + m[0] + ", " + m[1], x.order(0, 1), want);
    }

    private static void orderLeast() {
        bounds.promise(20, "The least k, 1 at least");
        orderAs(1, 1, 0, 2, 3);
        orderAs(1, 8, 0, 2, 3);
        orderAs(2, 6, 0, 2, 3);
        orderAs(3, 2, 0, 2, 3);
        orderAs(6, 3, 0, 2, 3);
        orderAs(3, 0, 1, 2, 0);
        orderAs(6, 1, 1, 3, 0);
        orderAs(1, 3, 0, 2, 0);
    }

    private static void orderByTheLimit() {
        bounds.promise(20, "by e's of NORM 2000 at most");
        orderAs(1, 1, 0, NORM_1999);
        orderAs(2, -1, 0, NORM_1999);
        orderAs(3, 0, 1, NORM_1999);
        orderAs(6, 1, 1, NORM_1999);
        // 3 leads through all 1998 classes: its powers to the 999, 666 and 54 are not 1
        orderAs(1998, 3, 0, NORM_1999);
    }

    private static void orderByUnit() {
        bounds.promise(20, "by a UNIT every class is RESIDUE of 1's");
        for (int[] u : UNITS) {
            orderAs(1, 0, 0, u);
            orderAs(1, 5, 3, u);
        }
    }

    private static void orderUnfit() {
        bounds.promise(20, "-3: by 0, NORM above 2000");
        orderAs(-3, 5, 3, 0, 0);
        orderAs(-3, 0, 0, 0, 0);
        orderAs(-3, 1, 0, 0, 0);
        orderAs(-3, 1, 0, NORM_2007);
        orderAs(-3, 33, -18, NORM_2007);
    }

    private static void orderNotPrimeTo() {
        bounds.promise(20, "-4: they are not PRIME TO each other");
        orderAs(-4, 0, 0, 2, 3);
        orderAs(-4, 2, 3, 2, 3);
        orderAs(-4, 1, -1, 3, 0);
        orderAs(-4, 2, 0, 6, 0);
        orderAs(-4, 0, 0, NORM_1999);
    }

    private static void orderEmpty() {
        bounds.promise(20, "-2: one is empty");
        CubicSigns x = pair(5, 3, 0, 0);
        bounds.due(-2, x, "order", 0, 7);
        bounds.due(-2, x, "order", 7, 0);
        bounds.due(-2, x, "order", 7, 1);
    }

    private static void orderNoSuchOnes() {
        bounds.promise(20, "NONE: no such ones");
        CubicSigns x = pair(5, 3, 2, 3);
        bounds.noSuchDrawer(NONE, 0, x, "order", 0, 1);
        bounds.noSuchDrawer(NONE, 1, x, "order", 0, 1);
    }

    // ---- promise 21

    private static void greatest() {
        greatestByTheLimit();
        greatestByUnit();
        greatestOfThosePrimeTo();
        greatestUnfit();
        greatestEmpty();
        greatestNoSuchOnes();
    }

    private static void greatestByTheLimit() {
        bounds.promise(21, "-3: .. NORM above 500");
        // 498 is 2 times 3 times 83: 164 classes lead through all
        bounds.due(498, Bounds.with(NORM_499), "greatest", 0, 0);
        bounds.due(164, Bounds.with(NORM_499), "greatest", 0, 1);
        bounds.due(-3, Bounds.with(NORM_507), "greatest", 0, 0);
        bounds.due(-3, Bounds.with(NORM_507), "greatest", 0, 1);
        bounds.due(-3, Bounds.with(9999, -9999), "greatest", 0, 0);
    }

    private static void greatestByUnit() {
        bounds.promise(21, "by a UNIT one class alone");
        for (int[] u : UNITS) {
            bounds.due(1, Bounds.with(u), "greatest", 0, 0);
            bounds.due(1, Bounds.with(u), "greatest", 0, 1);
        }
        // by 1 - w: 1 and -1
        bounds.due(2, Bounds.with(1, -1), "greatest", 0, 0);
        bounds.due(1, Bounds.with(1, -1), "greatest", 0, 1);
    }

    private static void greatestOfThosePrimeTo() {
        bounds.promise(21, "Of all classes PRIME TO a DRAWER's");
        int[][] moduli = {{22, 0}, {3, 0}, {21, 0}, {6, 0}, {2, 0}, {9, 0}, {4, 6}, {7, 0}, {12, 0}, {3, -3}};
        CubicSigns x = new CubicSigns();
        for (int[] m : moduli) {
            x.put(0, m[0], m[1]);
            int[] want = Oracle.greatest(new Oracle.Z(m[0], m[1]));
            bounds.due(want[0], x, "greatest", 0, 0);
            bounds.due(want[1], x, "greatest", 0, 1);
        }
    }

    private static void greatestUnfit() {
        bounds.promise(21, "-3: 0");
        bounds.due(-3, Bounds.with(0, 0), "greatest", 0, 0);
        bounds.due(-3, Bounds.with(0, 0), "greatest", 0, 1);
    }

    private static void greatestEmpty() {
        bounds.promise(21, "-2: empty");
        bounds.due(-2, Bounds.with(2, 3), "greatest", 7, 0);
        bounds.due(-2, Bounds.with(2, 3), "greatest", 7, 1);
    }

    private static void greatestNoSuchOnes() {
        bounds.promise(21, "NONE: no such ones");
        CubicSigns x = Bounds.with(2, 3);
        bounds.noSuchDrawer(NONE, 0, x, "greatest", 0, 0);
        bounds.outside(NONE, 0, 1, 1, x, "greatest", 0, 0);
    }

    // ---- promise 22

    private static void least() {
        leastOfLikeOnes();
        leastOfNoughtsClass();
        leastByGreatest();
        leastEmptyOrByNought();
        leastNoSuchOnesFirst();
    }

    private static void leastAs(int na, int nb, int ma, int mb, int a, int b) {
        CubicSigns x = pair(na, nb, ma, mb);
        bounds.same("a of " + na + ", " + nb + " by " + ma + ", " + mb, x.least(0, 1, 0), a);
        bounds.same("b of " + na + ", " + nb + " by " + ma + ", " + mb, x.least(0, 1, 1), b);
    }

    private static void leastOfLikeOnes() {
        bounds.promise(22, "of least NORM (of like ones of the least a, then b)");
        leastAs(1, 0, 2, 0, -1, 0);
        leastAs(-1, 0, 2, 0, -1, 0);
        leastAs(0, 1, 2, 0, 0, -1);
        leastAs(0, -1, 2, 0, 0, -1);
        leastAs(1, 1, 2, 0, -1, -1);
        // three of norm 3: 1 - w, 1 + 2 w, -2 - w
        leastAs(1, -1, 3, 0, -2, -1);
        // -1 + w, 2 + w, -1 - 2 w
        leastAs(-1, 1, 3, 0, -1, -2);
        leastAs(5, 7, 2, 3, 1, 1);
    }

    private static void leastOfNoughtsClass() {
        bounds.promise(22, "of 0's class 0, by a UNIT always");
        leastAs(0, 0, 5, 3, 0, 0);
        leastAs(5, 3, 5, 3, 0, 0);
        for (int[] u : UNITS) {
            leastAs(9999, -9999, u[0], u[1], 0, 0);
        }
    }

    private static void leastByGreatest() {
        bounds.promise(22, "by the greatest NORM");
        leastAs(9999, 0, 9999, -9999, -9999, -9999);
        leastAs(0, -9999, 9999, -9999, -9999, 0);
        leastAs(9999, 9999, 9999, -9999, -9999, 0);
        leastAs(9998, 0, 9999, -9999, 9998, 0);
        leastAs(9999, -9999, 9999, -9999, 0, 0);
    }

    private static void leastEmptyOrByNought() {
        bounds.promise(22, "Integer.MIN_VALUE: one is empty, by 0");
        CubicSigns x = pair(5, 3, 0, 0);
        for (int what = 0; what < 2; what++) {
            bounds.due(NO, x, "least", 0, 7, what);
            bounds.due(NO, x, "least", 7, 0, what);
            bounds.due(NO, x, "least", 0, 1, what);
            bounds.due(NO, x, "least", 1, 1, what);
            bounds.due(NO, x, "least", 7, 1, what);
        }
    }

    private static void leastNoSuchOnesFirst() {
        bounds.promise(22, "NONE too: no such ones (looked at first)");
        CubicSigns x = pair(5, 3, 0, 0);
        bounds.noSuchDrawer(NONE, 0, x, "least", 0, 0, 0);
        bounds.noSuchDrawer(NONE, 1, x, "least", 0, 0, 0);
        bounds.outside(NONE, 0, 1, 2, x, "least", 0, 0, 0);
        bounds.noSuchDrawer(NONE, 0, x, "least", 0, 7, 0);
        bounds.noSuchDrawer(NONE, 1, x, "least", 7, 0, 0);
        bounds.outside(NONE, 0, 1, 2, x, "least", 7, 7, 0);
        bounds.outside(NONE, 0, 1, 2, x, "least", 0, 1, 0);
    }

    // ---- promise 23

    private static void both() {
        bothOfTheBounds();
        bothBeyond();
        bothUnfit();
        bothByUnits();
        bothEmpty();
        bothNoSuchOnes();
    }

    private static void bothAs(int x, int y, int... parts) {
        CubicSigns c = Bounds.with(parts);
        bounds.due(x, c, "both", 0, 1, 2, 3, 0);
        bounds.due(y, c, "both", 0, 1, 2, 3, 1);
    }

    private static void bothOfTheBounds() {
        bounds.promise(23, "its RESIDUE by e's times g's");
        bothAs(7, 0, 1, 0, 2, 0, 2, 0, 5, 0);
        // 99 times 101 is 9999
        bothAs(4951, 0, 1, 0, 99, 0, 2, 0, 101, 0);
        bothAs(0, 4951, 0, 1, 99, 0, 0, 2, 101, 0);
        bothAs(9998, 9998, -1, -1, -99, 0, -1, -1, 101, 0);
    }

    private static void bothBeyond() {
        bounds.promise(23, "-4: e's times g's has a part beyond its bounds");
        bothAs(-4, -4, 1, 0, 100, 0, 2, 0, 101, 0);
        bothAs(-4, -4, 1, 0, 9999, 0, 2, 0, 2, 0);
        // 10000 + 9999 w, 1 + 10000 w, and those below 0
        bothAs(-4, -4, 1, 0, 9999, -1, 2, 0, 1, 1);
        bothAs(-4, -4, 1, 0, 9999, -1, 2, 0, 0, 1);
        bothAs(-4, -4, 1, 0, -9999, 1, 2, 0, 1, 1);
        bothAs(-4, -4, 1, 0, -9999, 1, 2, 0, 0, 1);
        // one part less of a leaves the product in bounds: 9999 + 9998 w
        CubicSigns x = Bounds.with(0, 0, 9998, -1, 0, 0, 1, 1);
        bounds.due(0, x, "both", 0, 1, 2, 3, 0);
    }

    private static void bothUnfit() {
        bounds.promise(23, "-3: e's or g's is 0, they are not PRIME TO each other");
        bothAs(-3, -3, 1, 0, 0, 0, 2, 0, 5, 0);
        bothAs(-3, -3, 1, 0, 2, 0, 2, 0, 0, 0);
        bothAs(-3, -3, 1, 0, 0, 0, 2, 0, 0, 0);
        // 0 and a UNIT are PRIME TO each other, but 0 is 0
        bothAs(-3, -3, 1, 0, 0, 0, 2, 0, 1, 1);
        bothAs(-3, -3, 1, 0, 1, 1, 2, 0, 0, 0);
        bothAs(-3, -3, 1, 0, 2, 0, 1, 0, 2, 0);
        bothAs(-3, -3, 0, 0, 6, 0, 0, 0, 1, -1);
        // ahead of -4
        bothAs(-3, -3, 1, 0, 100, 0, 1, 0, 100, 0);
    }

    private static void bothByUnits() {
        bounds.promise(23, "by UNITS");
        bothAs(0, 0, 5, 3, 1, 1, 7, 2, 0, 1);
        bothAs(3, 0, 5, 3, 1, 1, 3, 0, 2, 3);
        bothAs(3, 0, 3, 0, 2, 3, 5, 3, -1, 0);
    }

    private static void bothEmpty() {
        bounds.promise(23, "-2: one is empty");
        CubicSigns x = Bounds.with(1, 0, 2, 0, 2, 0, 5, 0, 0, 0);
        bounds.due(-2, x, "both", 7, 1, 2, 3, 0);
        bounds.due(-2, x, "both", 0, 7, 2, 3, 0);
        bounds.due(-2, x, "both", 0, 1, 7, 3, 0);
        bounds.due(-2, x, "both", 0, 1, 2, 7, 0);
        bounds.due(-2, x, "both", 0, 4, 7, 4, 0);
    }

    private static void bothNoSuchOnes() {
        bounds.promise(23, "NONE: no such ones");
        CubicSigns x = Bounds.with(1, 0, 2, 0, 2, 0, 5, 0);
        for (int place = 0; place < 4; place++) {
            bounds.noSuchDrawer(NONE, place, x, "both", 0, 1, 2, 3, 0);
        }
        bounds.outside(NONE, 0, 1, 4, x, "both", 0, 1, 2, 3, 0);
    }

    // ---- promise 24

    private static void parting() {
        partingByNought();
        partingOfNought();
        partingOfBothNought();
        partingBeyondBounds();
        partingNotSoMany();
        partingWhat();
        partingEmpty();
        partingNoSuchOnes();
    }

    private static void lastAs(int na, int nb, int ma, int mb, int... want) {
        CubicSigns x = pair(na, nb, ma, mb);
        for (int what = 0; what < 6; what++) {
            bounds.due(want[what], x, "parting", 0, 1, NONE, what);
        }
    }

    private static void partingByNought() {
        bounds.promise(24, "till a REST is 0 (m 0: none)");
        lastAs(3, -2, 0, 0, 3, -2, 1, 0, 0, 0);
        bounds.due(NO, pair(3, -2, 0, 0), "parting", 0, 1, 0, 0);
        bounds.due(0, pair(3, -2, 0, 0), "partings", 0, 1);
    }

    private static void partingOfNought() {
        bounds.promise(24, "0 PARTED by m");
        lastAs(0, 0, 2, 3, 2, 3, 0, 0, 1, 0);
        bounds.due(1, pair(0, 0, 2, 3), "partings", 0, 1);
        bounds.due(0, pair(0, 0, 2, 3), "parting", 0, 1, 0, 0);
        bounds.due(0, pair(0, 0, 2, 3), "parting", 0, 1, 0, 1);
        bounds.due(NO, pair(0, 0, 2, 3), "parting", 0, 1, 1, 0);
    }

    private static void partingOfBothNought() {
        bounds.promise(24, "of the last that was not 0 (m 0: n)");
        lastAs(0, 0, 0, 0, 0, 0, 1, 0, 0, 0);
        bounds.due(NO, pair(0, 0, 0, 0), "parting", 0, 1, 0, 0);
        lastAs(3, -2, 2, 3, -1, -1, 1, 0, 1, 2);
        lastAs(6, 0, 3, 0, 3, 0, 0, 0, 1, 0);
    }

    private static void partingBeyondBounds() {
        bounds.promise(24, "a q or a REST may be beyond the bounds of a DRAWER");
        CubicSigns q = pair(9999, -1, 0, -1);
        bounds.due(10000, q, "parting", 0, 1, 0, 0);
        bounds.due(9999, q, "parting", 0, 1, 0, 1);
        // the first rest is 10000 w
        CubicSigns rest = pair(-9999, -9998, 9999, -9999);
        bounds.due(0, rest, "parting", 0, 1, 0, 0);
        bounds.due(-1, rest, "parting", 0, 1, 0, 1);
        Oracle.Z[] got = new Oracle.Z[3];
        for (int i = 0; i < 3; i++) {
            got[i] = new Oracle.Z(rest.parting(0, 1, NONE, 2 * i), rest.parting(0, 1, NONE, 2 * i + 1));
        }
        Oracle.Z sum = got[1].times(new Oracle.Z(-9999, -9998)).plus(got[2].times(new Oracle.Z(9999, -9999)));
        bounds.same("s n + t m", sum.equals(got[0]) ? 1 : 0, 1);
        bounds.same("a unit", got[0].norm(), 1);
    }

    private static void partingNotSoMany() {
        bounds.promise(24, "Integer.MIN_VALUE: .. no such ones (the k-th q)");
        CubicSigns x = pair(3, -2, 2, 3);
        bounds.due(2, x, "partings", 0, 1);
        bounds.due(-3, x, "parting", 0, 1, 1, 0);
        bounds.due(NO, x, "parting", 0, 1, 2, 0);
        bounds.due(NO, x, "parting", 0, 1, Integer.MAX_VALUE, 0);
        bounds.due(NO, x, "parting", 0, 1, -2, 0);
        bounds.due(NO, x, "parting", 0, 1, Integer.MIN_VALUE, 0);
    }

    private static void partingWhat() {
        bounds.promise(24, "the k-th q, what 0 a, 1 b; k NONE: what 0, 1 .. 2, 3 .. 4, 5");
        CubicSigns x = pair(3, -2, 2, 3);
        bounds.outside(NO, 0, 1, 3, x, "parting", 0, 1, 0, 0);
        bounds.due(NO, x, "parting", 0, 1, 0, 5);
        bounds.outside(NO, 0, 5, 3, x, "parting", 0, 1, NONE, 0);
    }

    private static void partingEmpty() {
        bounds.promise(24, "Integer.MIN_VALUE: one is empty");
        CubicSigns x = pair(3, -2, 2, 3);
        bounds.due(NO, x, "parting", 0, 7, NONE, 0);
        bounds.due(NO, x, "parting", 7, 0, NONE, 0);
        bounds.due(NO, x, "parting", 0, 7, 0, 0);
    }

    private static void partingNoSuchOnes() {
        bounds.promise(24, "Integer.MIN_VALUE: .. no such ones");
        CubicSigns x = Bounds.with(3, -2, 2, 3, 1, 1, 1, 1, 1, 1, 1, 1, 1, 1, 1, 1);
        bounds.noSuchDrawer(NO, 0, x, "parting", 0, 1, 0, 0);
        bounds.noSuchDrawer(NO, 1, x, "parting", 0, 1, NONE, 0);
    }

    // ---- promises 25 and 26

    private static void partings() {
        partingsFewest();
        partingsEmpty();
        partingsNoSuchOnes();
    }

    private static void partingsFewest() {
        bounds.promise(25, "How many q THE PARTING has");
        bounds.due(0, pair(0, 0, 0, 0), "partings", 0, 1);
        bounds.due(0, pair(9999, -9999, 0, 0), "partings", 0, 1);
        bounds.due(1, pair(0, 0, 9999, -9999), "partings", 0, 1);
        bounds.due(1, pair(4, 0, 2, 0), "partings", 0, 1);
        bounds.due(2, pair(2, 0, 4, 0), "partings", 0, 1);
        bounds.due(1, pair(9999, -9999, 0, 1), "partings", 0, 1);
        bounds.due(2, pair(3, -2, 2, 3), "partings", 0, 1);
    }

    private static void partingsEmpty() {
        bounds.promise(25, "-2: one is empty");
        CubicSigns x = pair(3, -2, 2, 3);
        bounds.due(-2, x, "partings", 0, 7);
        bounds.due(-2, x, "partings", 7, 0);
        bounds.due(-2, x, "partings", 7, 7);
    }

    private static void partingsNoSuchOnes() {
        bounds.promise(25, "NONE: no such ones");
        CubicSigns x = pair(3, -2, 2, 3);
        bounds.noSuchDrawer(NONE, 0, x, "partings", 0, 1);
        bounds.noSuchDrawer(NONE, 1, x, "partings", 0, 1);
    }

    private static void steps() {
        stepsFewest();
        stepsFarthest();
        stepsEmpty();
        stepsNoSuchOnes();
    }

    private static void stepsFewest() {
        bounds.promise(26, "The fewest UNITS that, added one by one, lead from d's to e's");
        bounds.due(0, pair(5, 3, 5, 3), "steps", 0, 1);
        bounds.due(0, pair(5, 3, 5, 3), "steps", 0, 0);
        for (int[] u : UNITS) {
            bounds.due(1, pair(5, 3, 5 + u[0], 3 + u[1]), "steps", 0, 1);
            bounds.due(1, pair(0, 0, u[0], u[1]), "steps", 0, 1);
            bounds.due(2, pair(-u[0], -u[1], u[0], u[1]), "steps", 0, 1);
        }
        bounds.due(2, pair(0, 0, 1, -1), "steps", 0, 1);
        bounds.due(2, pair(0, 0, 2, 1), "steps", 0, 1);
        bounds.due(2, pair(0, 0, 1, 2), "steps", 0, 1);
    }

    private static void stepsFarthest() {
        bounds.promise(26, "The fewest UNITS from one bound to the other");
        bounds.due(39996, pair(9999, -9999, -9999, 9999), "steps", 0, 1);
        bounds.due(39996, pair(-9999, 9999, 9999, -9999), "steps", 0, 1);
        bounds.due(19998, pair(9999, 9999, -9999, -9999), "steps", 0, 1);
        bounds.due(19998, pair(9999, 0, -9999, 0), "steps", 0, 1);
        bounds.due(19998, pair(0, 9999, 0, -9999), "steps", 0, 1);
    }

    private static void stepsEmpty() {
        bounds.promise(26, "-2: one is empty");
        CubicSigns x = pair(3, -2, 2, 3);
        bounds.due(-2, x, "steps", 0, 7);
        bounds.due(-2, x, "steps", 7, 0);
        bounds.due(-2, x, "steps", 7, 7);
    }

    private static void stepsNoSuchOnes() {
        bounds.promise(26, "NONE: no such ones");
        CubicSigns x = pair(3, -2, 2, 3);
        bounds.noSuchDrawer(NONE, 0, x, "steps", 0, 1);
        bounds.noSuchDrawer(NONE, 1, x, "steps", 0, 1);
    }

    // ---- promise 27

    private static void direct() {
        directByLeastAndGreatest();
        directDivided();
        directNoPrime();
        directOfThree();
        directEmpty();
        directNoSuchOnes();
    }

    private static void directAs(int na, int nb, int ma, int mb, int x, int y) {
        CubicSigns c = pair(na, nb, ma, mb);
        bounds.same("x of " + na + ", " + nb + " by " + ma + ", " + mb, c.direct(0, 1, 0), x);
        bounds.same("y of " + na + ", " + nb + " by " + ma + ", " + mb, c.direct(0, 1, 1), y);
    }

    private static void directByLeastAndGreatest() {
        bounds.promise(27, "POWER of d's to the (NORM of e's less 1) by 3");
        directAs(0, 1, 2, 0, 0, 1);
        directAs(1, 1, 2, 0, 1, 1);
        directAs(1, 0, 2, 0, 1, 0);
        directAs(3, 0, 2, 3, 2, 0);
        directAs(3, 0, 3, 1, 2, 0);
        directAs(1, 0, 9887, 0, 1, 0);
        // a whole number is a cube by one that stays prime
        directAs(2, 0, 9887, 0, 1, 0);
        directAs(-1, 0, 0, 9887, 1, 0);
    }

    private static void directDivided() {
        bounds.promise(27, "of what e's divides: 0");
        directAs(0, 0, 2, 0, 0, 0);
        directAs(2, 3, 2, 3, 0, 0);
        directAs(7, 0, 2, 3, 0, 0);
    }

    private static void directNoPrime() {
        bounds.promise(27, "-3: e's is no PRIME");
        int[][] others = {{0, 0}, {1, 0}, {1, 1}, {0, -1}, {4, 0}, {7, 0}, {-5, 3}, {10, 0}};
        for (int[] m : others) {
            bounds.due(-3, pair(3, 0, m), "direct", 0, 1, 0);
            bounds.due(-3, pair(3, 0, m), "direct", 0, 1, 1);
        }
    }

    private static void directOfThree() {
        bounds.promise(27, "-3: .. or of THREE");
        int[][] six = {{1, -1}, {2, 1}, {1, 2}, {-1, 1}, {-2, -1}, {-1, -2}, {3, 0}};
        for (int[] m : six) {
            bounds.due(-3, pair(2, 0, m), "direct", 0, 1, 0);
            bounds.due(-3, pair(2, 0, m), "direct", 0, 1, 1);
        }
    }

    private static void directEmpty() {
        bounds.promise(27, "-2: one is empty");
        CubicSigns x = pair(3, 0, 0, 0);
        bounds.due(-2, x, "direct", 0, 7, 0);
        bounds.due(-2, x, "direct", 7, 0, 0);
        bounds.due(-2, x, "direct", 7, 1, 1);
    }

    private static void directNoSuchOnes() {
        bounds.promise(27, "NONE: no such ones");
        CubicSigns x = pair(3, 0, 2, 3);
        bounds.noSuchDrawer(NONE, 0, x, "direct", 0, 1, 0);
        bounds.noSuchDrawer(NONE, 1, x, "direct", 0, 1, 0);
        bounds.outside(NONE, 0, 1, 2, x, "direct", 0, 1, 0);
    }
}
