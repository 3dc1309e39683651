/**
 * Cubes among the numbers a + b w, where w is a third root of one: eight drawers of such
 * numbers, what is reckoned with them, their classes, and the cubic sign.
 *
 * Every call works on numbers and rows that the constructor made, so that a long run of
 * calls makes no new objects.
 */
public final class CubicSigns {
    /** There is none. */
    public static final int NONE = -1;

    private static final int NO_ANSWER = Integer.MIN_VALUE;
    private static final int EMPTY = -2;
    private static final int TOO_FEW = -2;
    private static final int UNFIT = -3;
    private static final int LACKING = -4;

    /** The norm up to which classes are looked through one by one. */
    private static final int FEW_CLASSES = 2000;
    private static final int FEWER_CLASSES = 500;
    private static final int HIGHEST_POWER = 1000000000;
    private static final int WIDEST_RING = 1000000;
    private static final int FARTHEST_DRAW = 1000;
    private static final int LONGEST_TEXT = 40;
    private static final int BYTES_OF_A_FEED = 20;
    private static final int LARGEST_CROWD = 100;

    private final Drawers drawers;
    private final Tape tape;
    private final Euclid euclid;
    private final Modulus modulus;
    private final Factors factors;
    private final Primes primes;
    private final Ring rings;
    private final Letters letters;

    /** The numbers of the drawers that a call names, in the call's order. */
    private final Num one;
    private final Num two;
    private final Num three;
    private final Num four;
    /** What a call reckons. */
    private final Num out;
    private final Num spare;
    /** A mark for each class, or for each whole number below a prime. */
    private final int[] marks;

    public CubicSigns() {
        drawers = new Drawers();
        tape = new Tape();
        euclid = new Euclid();
        modulus = new Modulus();
        factors = new Factors();
        primes = new Primes();
        rings = new Ring();
        letters = new Letters();
        one = new Num();
        two = new Num();
        three = new Num();
        four = new Num();
        out = new Num();
        spare = new Num();
        marks = new int[FEW_CLASSES];
    }

    // ---- told and put

    public int feed(int a, int b, int c, int d, int e) {
        if (!tape.hasRoomFor(BYTES_OF_A_FEED)) {
            return NONE;
        }
        tape.addBytesOf(a);
        tape.addBytesOf(b);
        tape.addBytesOf(c);
        tape.addBytesOf(d);
        tape.addBytesOf(e);
        return tape.size;
    }

    public int write(int d, int n) {
        if (!Drawers.isOne(d) || n < 1 || n > LONGEST_TEXT || n > tape.size) {
            return NONE;
        }
        int fault = tape.readText(n);
        tape.size = 0;
        if (fault == 0) {
            drawers.fill(d, tape.plain, tape.omegas);
        }
        return fault;
    }

    public boolean put(int d, int a, int b) {
        spare.set(a, b);
        if (!Drawers.isOne(d) || !spare.fits()) {
            return false;
        }
        drawers.fill(d, a, b);
        return true;
    }

    public int take(int d) {
        if (!Drawers.isOne(d)) {
            return NONE;
        }
        int was = bit(drawers.has(d));
        drawers.clear(d);
        return was;
    }

    public int told(int d, int what) {
        if (!drawers.has(d) || what < 0 || what > 7) {
            return NO_ANSWER;
        }
        drawers.load(d, one);
        switch (what) {
            case 0: return (int) one.a;
            case 1: return (int) one.b;
            case 2: return (int) one.norm();
            case 3: return bit(one.isOfThree());
            case 4: return bit(one.isPrimary());
            case 5: return bit(isPrimeNumber(one));
            case 6: return one.unitNumber();
            default: return one.isNought() ? -1 : one.takeOutThrees();
        }
    }

    // ---- reckoned

    public int work(int d, int e, int f, int how) {
        if (!Drawers.isOne(f) || how < 0 || how > 5) {
            return NONE;
        }
        int refused = loadTwo(d, e);
        if (refused != 0) {
            return refused;
        }
        boolean byNought = (how == 3 || how == 4) && two.isNought();
        boolean ofNoughts = how == 5 && one.isNought() && two.isNought();
        if (byNought || ofNoughts) {
            return UNFIT;
        }
        reckon(how);
        return storeOut(f);
    }

    private void reckon(int how) {
        out.copy(one);
        switch (how) {
            case 0:
                out.add(two);
                break;
            case 1:
                out.subtract(two);
                break;
            case 2:
                out.multiply(two);
                break;
            case 3:
                out.becomeQuotient(one, two);
                break;
            case 4:
                spare.becomeQuotient(one, two);
                spare.multiply(two);
                out.subtract(spare);
                break;
            default:
                euclid.part(one, two);
                out.copy(euclid.last);
                out.makeOwn();
                break;
        }
    }

    private int storeOut(int d) {
        if (!out.fits()) {
            return LACKING;
        }
        drawers.fill(d, (int) out.a, (int) out.b);
        return (int) out.norm();
    }

    public int change(int d, int how) {
        if (!Drawers.isOne(d) || how < 0 || how > 7) {
            return NONE;
        }
        if (!drawers.has(d)) {
            return EMPTY;
        }
        drawers.load(d, out);
        if (how == 0) {
            out.turn();
        } else if (how == 1) {
            out.makeOwn();
        } else {
            out.multiplyByUnit(how - 2);
        }
        return storeOut(d);
    }

    public int are(int d, int e, int what) {
        if (what < 0 || what > 2) {
            return NONE;
        }
        int refused = loadTwo(d, e);
        if (refused != 0) {
            return refused;
        }
        switch (what) {
            case 0: return bit(one.isAlike(two));
            case 1: return bit(euclid.arePrimeToEachOther(one, two));
            default: return bit(two.isDividedBy(one));
        }
    }

    public int written(int d, int k, int what) {
        if (!drawers.has(d) || k < NONE || what < 0 || what > 2) {
            return NO_ANSWER;
        }
        drawers.load(d, one);
        if (one.isNought()) {
            return NO_ANSWER;
        }
        factors.spell(one);
        if (k == NONE) {
            switch (what) {
                case 0: return factors.count;
                case 1: return factors.threes;
                default: return factors.unit;
            }
        }
        if (k >= factors.count) {
            return NO_ANSWER;
        }
        factors.load(k, out);
        return partOrNorm(out, what);
    }

    public long divisors(int d, int what) {
        if (!drawers.has(d) || what < 0 || what > 3) {
            return Long.MIN_VALUE;
        }
        drawers.load(d, one);
        if (one.isNought()) {
            return Long.MIN_VALUE;
        }
        factors.spell(one);
        switch (what) {
            case 0: return factors.divisorSum(false);
            case 1: return factors.divisorSum(true);
            case 2: return factors.primeClasses();
            default: return factors.squarefreeSign();
        }
    }

    public int signBy(int d, int e, int k) {
        if (k < 0) {
            return NONE;
        }
        int refused = loadTwo(d, e);
        if (refused != 0) {
            return refused;
        }
        if (!bearsSigns(two)) {
            return UNFIT;
        }
        factors.spell(two);
        if (k >= factors.count) {
            return LACKING;
        }
        factors.load(k, spare);
        return signByPrime(one, spare);
    }

    // ---- classes

    public int residue(int d, int e, int what) {
        int refused = openClasses(d, e, what);
        if (refused != 0) {
            return refused;
        }
        modulus.reduce(one);
        return part(one, what);
    }

    public int power(int d, int k, int e, int what) {
        if (k < 0 || k > HIGHEST_POWER) {
            return NONE;
        }
        int refused = openClasses(d, e, what);
        if (refused != 0) {
            return refused;
        }
        modulus.raise(one, k, out);
        return part(out, what);
    }

    public int inverse(int d, int e, int what) {
        int refused = openClasses(d, e, what);
        if (refused != 0) {
            return refused;
        }
        if (!euclid.invert(one, two, out)) {
            return LACKING;
        }
        modulus.reduce(out);
        return part(out, what);
    }

    /** The numbers of d and e, and the classes by e's: 0, or why there are none. */
    private int openClasses(int d, int e, int what) {
        if (what < 0 || what > 1) {
            return NONE;
        }
        int refused = loadTwo(d, e);
        if (refused != 0) {
            return refused;
        }
        return modulus.open(two) ? 0 : UNFIT;
    }

    public int classes(int d, int what) {
        if (!Drawers.isOne(d) || what < 0 || what > 2) {
            return NONE;
        }
        if (!drawers.has(d)) {
            return EMPTY;
        }
        drawers.load(d, two);
        boolean open = what == 0 ? modulus.open(two) : modulus.openFew(two, FEW_CLASSES);
        if (!open) {
            return UNFIT;
        }
        if (what == 0) {
            return (int) two.norm();
        }
        factors.spell(two);
        int primeTo = (int) factors.primeClasses();
        return what == 1 ? primeTo : cubesAmong(primeTo);
    }

    /** Every cube has as many roots as 1 has, so the classes fall into groups of that size. */
    private int cubesAmong(int primeTo) {
        one.set(1, 0);
        modulus.reduce(one);
        int rootsOfOne = seekResidue(true, one, NONE);
        return rootsOfOne < 1 ? 0 : primeTo / rootsOfOne;
    }

    public int root(int d, int e, int k, int what) {
        if (k < NONE || !isPartOf(k, what)) {
            return NONE;
        }
        int refused = loadTwo(d, e);
        if (refused != 0) {
            return refused;
        }
        if (!modulus.openFew(two, FEW_CLASSES)) {
            return UNFIT;
        }
        modulus.reduce(one);
        return foundAnswer(seekResidue(true, one, k), k, what);
    }

    /**
     * Looks for residues whose third power (else: whose product with one) is the wanted residue,
     * till the k-th is in out: how many came.
     */
    private int seekResidue(boolean cubes, Num wanted, int k) {
        int found = 0;
        for (long y = 0; y < modulus.step; y++) {
            for (long x = 0; x < modulus.width; x++) {
                out.set(x, y);
                if (cubes) {
                    out.cube();
                } else {
                    out.multiply(one);
                }
                modulus.reduce(out);
                if (out.isSame(wanted)) {
                    found++;
                    if (found - 1 == k) {
                        out.set(x, y);
                        return found;
                    }
                }
            }
        }
        return found;
    }

    public int linear(int d, int e, int f, int k, int what) {
        if (!Drawers.isOne(f) || k < NONE || !isPartOf(k, what)) {
            return NONE;
        }
        int refused = loadTwo(d, e);
        if (refused != 0) {
            return refused;
        }
        if (!drawers.has(f)) {
            return EMPTY;
        }
        drawers.load(f, three);
        if (!modulus.openFew(three, FEW_CLASSES)) {
            return UNFIT;
        }
        modulus.reduce(one);
        modulus.reduce(two);
        return foundAnswer(seekResidue(false, two, k), k, what);
    }

    private int foundAnswer(int found, int k, int what) {
        if (k == NONE) {
            return found;
        }
        return k >= found ? LACKING : part(out, what);
    }

    /** Of k NONE any what will do. */
    private static boolean isPartOf(int k, int what) {
        return k == NONE || what == 0 || what == 1;
    }

    public int spread(int d, int many) {
        if (!Drawers.isOne(d) || many < 0 || many > FEW_CLASSES) {
            return NONE;
        }
        if (!drawers.has(d)) {
            return EMPTY;
        }
        drawers.load(d, two);
        if (!modulus.openFew(two, FEW_CLASSES)) {
            return UNFIT;
        }
        clearMarks(0);
        for (long y = 0; y < modulus.step; y++) {
            for (long x = 0; x < modulus.width; x++) {
                out.set(x, y);
                out.cube();
                modulus.reduce(out);
                int place = modulus.place(out);
                mark(place, markAt(place) + 1);
            }
        }
        int classes = 0;
        for (int i = 0; i < modulus.size(); i++) {
            if (markAt(i) == many) {
                classes++;
            }
        }
        return classes;
    }

    public int order(int d, int e) {
        int refused = loadTwo(d, e);
        if (refused != 0) {
            return refused;
        }
        if (!modulus.openFew(two, FEW_CLASSES)) {
            return UNFIT;
        }
        if (!euclid.arePrimeToEachOther(one, two)) {
            return LACKING;
        }
        return orderOf(one);
    }

    /** Of a number prime to the modulus; fewer steps than classes lead back to 1. */
    private int orderOf(Num n) {
        modulus.reduce(n);
        spare.set(1, 0);
        modulus.reduce(spare);
        out.copy(n);
        int k = 1;
        while (k < FEW_CLASSES && !out.isSame(spare)) {
            out.multiply(n);
            modulus.reduce(out);
            k++;
        }
        return k;
    }

    public int greatest(int d, int what) {
        if (!Drawers.isOne(d) || what < 0 || what > 1) {
            return NONE;
        }
        if (!drawers.has(d)) {
            return EMPTY;
        }
        drawers.load(d, two);
        if (!modulus.openFew(two, FEWER_CLASSES)) {
            return UNFIT;
        }
        markOrders(two);
        int most = 0;
        int many = 0;
        for (int i = 0; i < modulus.size(); i++) {
            int order = markAt(i);
            if (order > most) {
                most = order;
                many = 0;
            }
            if (order == most) {
                many++;
            }
        }
        return what == 0 ? most : many;
    }

    /** Each class that is prime to m is marked with its order, every other one with 0. */
    private void markOrders(Num m) {
        clearMarks(0);
        for (long y = 0; y < modulus.step; y++) {
            for (long x = 0; x < modulus.width; x++) {
                one.set(x, y);
                if (markAt(modulus.place(one)) == 0 && euclid.arePrimeToEachOther(one, m)) {
                    markPowers(one, orderOf(one));
                }
            }
        }
    }

    /** One walk through the powers of n tells the orders of them all. */
    private void markPowers(Num n, int order) {
        out.copy(n);
        for (int k = 1; k <= order && k <= FEW_CLASSES; k++) {
            long common = Whole.divisor(k, order);
            if (common > 0) {
                mark(modulus.place(out), (int) (order / common));
            }
            out.multiply(n);
            modulus.reduce(out);
        }
    }

    public int least(int d, int e, int what) {
        if (what < 0 || what > 1 || !Drawers.isOne(d) || !Drawers.isOne(e)) {
            return NONE;
        }
        if (loadTwo(d, e) != 0 || two.isNought()) {
            return NO_ANSWER;
        }
        reckon(4);
        leastAround();
        return part(three, what);
    }

    /** The rest in out is so small that no step of more than one unit of two leads lower. */
    private void leastAround() {
        three.copy(out);
        for (int u = 0; u < Num.UNITS; u++) {
            spare.copy(two);
            spare.multiplyByUnit(u);
            spare.add(out);
            if (spare.isLessThan(three)) {
                three.copy(spare);
            }
        }
    }

    public int both(int d, int e, int f, int g, int what) {
        boolean drawersAre = Drawers.isOne(d) && Drawers.isOne(e) && Drawers.isOne(f) && Drawers.isOne(g);
        if (!drawersAre || what < 0 || what > 1) {
            return NONE;
        }
        if (loadTwo(d, e) != 0 || !drawers.has(f) || !drawers.has(g)) {
            return EMPTY;
        }
        drawers.load(f, three);
        drawers.load(g, four);
        if (two.isNought() || four.isNought() || !euclid.invert(two, four, out)) {
            return UNFIT;
        }
        spare.copy(two);
        spare.multiply(four);
        if (!spare.fits()) {
            return LACKING;
        }
        joinClasses();
        return part(out, what);
    }

    /** With the inverse of two by four in out: one and so many twos that it is three's by four. */
    private void joinClasses() {
        modulus.open(four);
        modulus.reduce(out);
        three.subtract(one);
        modulus.reduce(three);
        out.multiply(three);
        modulus.reduce(out);
        out.multiply(two);
        out.add(one);
        modulus.open(spare);
        modulus.reduce(out);
    }

    public int parting(int d, int e, int k, int what) {
        int most = k == NONE ? 5 : 1;
        if (k < NONE || what < 0 || what > most || loadTwo(d, e) != 0) {
            return NO_ANSWER;
        }
        euclid.part(one, two);
        if (k >= euclid.count) {
            return NO_ANSWER;
        }
        if (k != NONE) {
            euclid.loadQuotient(k, out);
            return part(out, what);
        }
        switch (what) {
            case 0: case 1: return part(euclid.last, what);
            case 2: case 3: return part(euclid.lastOfFirst, what - 2);
            default: return part(euclid.lastOfSecond, what - 4);
        }
    }

    public int partings(int d, int e) {
        int refused = loadTwo(d, e);
        if (refused != 0) {
            return refused;
        }
        euclid.part(one, two);
        return euclid.count;
    }

    public int steps(int d, int e) {
        int refused = loadTwo(d, e);
        if (refused != 0) {
            return refused;
        }
        two.subtract(one);
        long straight = Math.max(Math.abs(two.a), Math.abs(two.b));
        return (int) Math.max(straight, Math.abs(two.a - two.b));
    }

    public int direct(int d, int e, int what) {
        if (what < 0 || what > 1) {
            return NONE;
        }
        int refused = loadTwo(d, e);
        if (refused != 0) {
            return refused;
        }
        if (two.isOfThree() || !isPrimeNumber(two)) {
            return UNFIT;
        }
        modulus.open(two);
        modulus.raise(one, (two.norm() - 1) / 3, out);
        return part(out, what);
    }

    // ---- the sign

    public int sign(int d, int e) {
        int refused = loadTwo(d, e);
        if (refused != 0) {
            return refused;
        }
        return bearsSigns(two) ? signOf(one, two) : UNFIT;
    }

    public int turned(int d, int e) {
        int refused = loadTwo(d, e);
        if (refused != 0) {
            return refused;
        }
        boolean primary = one.isPrimary() && two.isPrimary();
        if (!primary || one.isUnit() || two.isUnit() || !euclid.arePrimeToEachOther(one, two)) {
            return UNFIT;
        }
        return 3 * signOf(one, two) + signOf(two, one);
    }

    public int supplement(int d, int which) {
        if (!Drawers.isOne(d) || which < 0 || which > 3) {
            return NONE;
        }
        if (!drawers.has(d)) {
            return EMPTY;
        }
        drawers.load(d, two);
        if (!bearsSigns(two)) {
            return UNFIT;
        }
        switch (which) {
            case 0:
                one.set(0, 1);
                break;
            case 1:
                one.set(1, -1);
                break;
            case 2:
                one.set(3, 0);
                break;
            default:
                one.set(2, 0);
                break;
        }
        return signOf(one, two);
    }

    /** Whether there are signs by m; 0 is of three. */
    private static boolean bearsSigns(Num m) {
        return !m.isOfThree() && !m.isUnit();
    }

    private int signOf(Num n, Num m) {
        factors.spell(m);
        int sum = 0;
        for (int k = 0; k < factors.count; k++) {
            factors.load(k, spare);
            int sign = signByPrime(n, spare);
            if (sign == 3) {
                return 3;
            }
            sum += sign;
        }
        return sum % 3;
    }

    private int signByPrime(Num n, Num prime) {
        modulus.open(prime);
        modulus.raise(n, (prime.norm() - 1) / 3, out);
        if (out.isNought()) {
            return 3;
        }
        if (out.isSame(1, 0)) {
            return 0;
        }
        four.set(0, 1);
        modulus.reduce(four);
        return out.isSame(four) ? 1 : 2;
    }

    // ---- whole primes

    public int prime(int p, int what) {
        if (!Primes.isThird(p) || what < 0 || what > 7) {
            return NO_ANSWER;
        }
        Primes.splitInto(p, two);
        switch (what) {
            case 0: return (int) two.a;
            case 1: return (int) two.b;
            // 4 p is (2 a - b) squared and 3 times b squared
            case 2: return (int) (2 * two.a - two.b);
            case 3: return (int) (two.b / 3);
            default: break;
        }
        markCubes(p);
        switch (what) {
            case 4: return bit(markAt(2) == 0);
            case 5: return bit(markAt(3) == 0);
            case 6: return leastMarked(p, true);
            default: return leastMarked(p, false);
        }
    }

    /** Marks the cubes by p with 0, all others with 3. */
    private void markCubes(int p) {
        clearMarks(3);
        for (int t = 1; t < p; t++) {
            mark((int) Math.floorMod((long) t * t * t, (long) p), 0);
        }
    }

    private int leastMarked(int p, boolean cube) {
        int n = 2;
        while (n < p && (markAt(n) == 0) != cube) {
            n++;
        }
        return n;
    }

    /** Marks 1 to p - 1 with their signs by the split of p; one that is no cube tells of them all. */
    private void markSigns(int p) {
        markCubes(p);
        Primes.splitInto(p, two);
        long other = leastMarked(p, false);
        one.set(other, 0);
        int sign = signByPrime(one, two);
        for (int h = 1; h < p; h++) {
            if (markAt(h) == 0) {
                mark((int) Math.floorMod(h * other, (long) p), sign);
                mark((int) Math.floorMod(h * other * other, (long) p), 3 - sign);
            }
        }
    }

    public int sum(int p, int what) {
        if (!Primes.isThird(p) || what < 0 || what > 3) {
            return NO_ANSWER;
        }
        if (what == 3) {
            markCubes(p);
            return pointsOf(p);
        }
        markSigns(p);
        out.set(0, 0);
        for (int t = 2; t < p; t++) {
            int sign = (markAt(t) + markAt(p + 1 - t)) % 3;
            // w to the sign is the unit of twice that number
            spare.set(1, 0);
            spare.multiplyByUnit(2 * sign);
            out.add(spare);
        }
        return partOrNorm(out, what);
    }

    private int pointsOf(int p) {
        int points = 0;
        for (int u = 0; u < p; u++) {
            int v = u <= 1 ? 1 - u : p + 1 - u;
            points += thirdRoots(u) * thirdRoots(v);
        }
        return points;
    }

    private int thirdRoots(int u) {
        if (u == 0) {
            return 1;
        }
        return markAt(u) == 0 ? 3 : 0;
    }

    public int split(int p, int d) {
        if (!Primes.isThird(p) || !Drawers.isOne(d)) {
            return NONE;
        }
        Primes.splitInto(p, out);
        drawers.fill(d, (int) out.a, (int) out.b);
        return (int) out.b;
    }

    public int thirds(int k) {
        if (k < NONE) {
            return UNFIT;
        }
        int found = 0;
        for (int p = Primes.LEAST_THIRD; p <= Primes.LAST_THIRD; p++) {
            if (Primes.isThird(p)) {
                if (found == k) {
                    return p;
                }
                found++;
            }
        }
        return k == NONE ? found : TOO_FEW;
    }

    public int primeAt(int k, int what) {
        if (k < NONE) {
            return NO_ANSWER;
        }
        primes.find();
        if (k == NONE) {
            return primes.count;
        }
        if (k >= primes.count || what < 0 || what > 2) {
            return NO_ANSWER;
        }
        primes.load(k, out);
        return partOrNorm(out, what);
    }

    public int crowd(int d, int many, int what) {
        if (!Drawers.isOne(d) || many < 1 || many > LARGEST_CROWD || what < 0 || what > 3) {
            return NONE;
        }
        if (!drawers.has(d)) {
            return EMPTY;
        }
        drawers.load(d, one);
        primes.find();
        int found = 0;
        for (int k = 0; k < many; k++) {
            primes.load(k, two);
            if (signByPrime(one, two) == what) {
                found++;
            }
        }
        return found;
    }

    public int letter(int d, int k) {
        if (!Drawers.isOne(d) || k < NONE) {
            return NONE;
        }
        if (!drawers.has(d)) {
            return EMPTY;
        }
        drawers.load(d, one);
        letters.spellOut((int) one.a, (int) one.b);
        if (k == NONE) {
            return letters.count;
        }
        return k >= letters.count ? UNFIT : letters.at(k);
    }

    // ---- floats

    public int length(int d) {
        if (!Drawers.isOne(d)) {
            return NONE;
        }
        if (!drawers.has(d)) {
            return EMPTY;
        }
        drawers.load(d, one);
        float norm = (float) one.norm();
        float x = norm / 2f;
        for (int i = 0; i < 6 && x > 0f; i++) {
            x = (x + norm / x) / 2f;
        }
        return (int) (x * 1000f);
    }

    public int middle(int what) {
        if (what < 0 || what > 1) {
            return NO_ANSWER;
        }
        float sum = 0f;
        int many = 0;
        for (int d = 0; d < Drawers.MANY; d++) {
            if (drawers.has(d)) {
                drawers.load(d, one);
                sum = sum + (float) part(one, what);
                many++;
            }
        }
        if (many == 0) {
            return NO_ANSWER;
        }
        return (int) (sum / (float) many * 100f);
    }

    public int nearest(int d, int what) {
        if (!Drawers.isOne(d) || what < 0 || what > 1) {
            return NONE;
        }
        if (!drawers.has(d)) {
            return EMPTY;
        }
        drawers.load(d, one);
        int which = NONE;
        long least = 0;
        for (int e = 0; e < Drawers.MANY; e++) {
            if (e != d && drawers.has(e)) {
                drawers.load(e, two);
                two.subtract(one);
                if (which == NONE || two.norm() < least) {
                    which = e;
                    least = two.norm();
                }
            }
        }
        if (which == NONE) {
            return UNFIT;
        }
        return what == 0 ? which : (int) least;
    }

    // ---- all

    public int ring(int n, int what) {
        if (n < 0 || n > WIDEST_RING || what < 0 || what > 2) {
            return NONE;
        }
        return rings.seek(n, what, NONE);
    }

    public int disk(int n, int what) {
        if (n < 0 || n > WIDEST_RING || what < 0 || what > 1) {
            return NONE;
        }
        rings.fillDisk(n);
        return what == 0 ? rings.all : rings.mostOfOneRow;
    }

    public int ringAt(int n, int k, int what) {
        if (n < 0 || n > WIDEST_RING || k < 0 || what < 0 || what > 1) {
            return NO_ANSWER;
        }
        if (rings.seek(n, 0, k) <= k) {
            return NO_ANSWER;
        }
        return what == 0 ? rings.foundA : rings.foundB;
    }

    public int drawn(int d, int seed, int far) {
        if (!Drawers.isOne(d) || far < 1 || far > FARTHEST_DRAW) {
            return NONE;
        }
        int sides = 2 * far + 1;
        int x = nextDraw(seed & 65535);
        int a = x / 4 % sides - far;
        x = nextDraw(x);
        int b = x / 4 % sides - far;
        drawers.fill(d, a, b);
        return x;
    }

    private static int nextDraw(int x) {
        return (25173 * x + 13849) & 65535;
    }

    public int count(int what) {
        switch (what) {
            case 0: return drawers.full;
            case 1: return tape.size;
            case 2: return drawers.kept;
            default: return NONE;
        }
    }

    public int keep() {
        return drawers.pushState() ? drawers.kept : NONE;
    }

    public int undo() {
        return drawers.popState() ? drawers.kept : NONE;
    }

    // ---- what many calls share

    /** The numbers of d and e come into one and two: 0, or why they can't. */
    private int loadTwo(int d, int e) {
        if (!Drawers.isOne(d) || !Drawers.isOne(e)) {
            return NONE;
        }
        if (!drawers.has(d) || !drawers.has(e)) {
            return EMPTY;
        }
        drawers.load(d, one);
        drawers.load(e, two);
        return 0;
    }

    private boolean isPrimeNumber(Num n) {
        if (n.isNought()) {
            return false;
        }
        factors.spell(n);
        return factors.total() == 1;
    }

    private static int bit(boolean yes) {
        return yes ? 1 : 0;
    }

    private static int part(Num n, int what) {
        return (int) (what == 0 ? n.a : n.b);
    }

    private static int partOrNorm(Num n, int what) {
        return what == 2 ? (int) n.norm() : part(n, what);
    }

    private void clearMarks(int value) {
        for (int i = 0; i < marks.length; i++) {
            marks[i] = value;
        }
    }

    private int markAt(int i) {
        return i >= 0 && i < marks.length ? marks[i] : 0;
    }

    private void mark(int i, int value) {
        if (i >= 0 && i < marks.length) {
            marks[i] = value;
        }
    }

    /** Whole numbers. */
    private static final class Whole {
        private static final int MOST_STEPS = 100;
        private static final int MOST_ROOT_STEPS = 100000;

        static long divisor(long a, long b) {
            long x = Math.abs(a);
            long y = Math.abs(b);
            for (int i = 0; i < MOST_STEPS && y != 0; i++) {
                long rest = x % y;
                x = y;
                y = rest;
            }
            return x;
        }

        /** The inverse of n by a size that has no divisor in common with it. */
        static long inverseBy(long n, long size) {
            if (size < 1) {
                return 0;
            }
            long x = size;
            long y = Math.floorMod(n, size);
            long ofX = 0;
            long ofY = 1;
            for (int i = 0; i < MOST_STEPS && y != 0; i++) {
                long q = x / y;
                long rest = x - q * y;
                x = y;
                y = rest;
                long ofRest = ofX - q * ofY;
                ofX = ofY;
                ofY = ofRest;
            }
            return Math.floorMod(ofX, size);
        }

        /** The whole root of v (0 or more), cut, looked for from a near one on. */
        static int rootFrom(int v, int near) {
            int s = near;
            for (int i = 0; i < MOST_ROOT_STEPS && s > 0 && s * s > v; i++) {
                s--;
            }
            for (int i = 0; i < MOST_ROOT_STEPS && (s + 1) * (s + 1) <= v; i++) {
                s++;
            }
            return s;
        }

        static boolean isPrime(int n) {
            if (n < 2) {
                return false;
            }
            for (int q = 2; q <= n / q; q++) {
                if (n % q == 0) {
                    return false;
                }
            }
            return true;
        }
    }

    /** A number a + b w that is reckoned on in place. */
    private static final class Num {
        static final int UNITS = 6;
        private static final int BOUND = 9999;
        private static final int MOST_THREES = 60;

        long a;
        long b;

        void set(long newA, long newB) {
            a = newA;
            b = newB;
        }

        void copy(Num n) {
            a = n.a;
            b = n.b;
        }

        boolean isSame(Num n) {
            return a == n.a && b == n.b;
        }

        boolean isSame(long otherA, long otherB) {
            return a == otherA && b == otherB;
        }

        boolean isNought() {
            return a == 0 && b == 0;
        }

        boolean fits() {
            return a >= -BOUND && a <= BOUND && b >= -BOUND && b <= BOUND;
        }

        long norm() {
            return a * a - a * b + b * b;
        }

        boolean isUnit() {
            return norm() == 1;
        }

        boolean isOfThree() {
            return (a + b) % 3 == 0;
        }

        boolean isPrimary() {
            return Math.floorMod(a, 3L) == 2 && b % 3 == 0;
        }

        boolean isAlike(Num n) {
            return norm() == n.norm() && isDividedBy(n);
        }

        boolean isDividedBy(Num m) {
            long size = m.norm();
            if (size < 1) {
                return isNought();
            }
            // both parts of this times m turned
            return (a * (m.a - m.b) + b * m.b) % size == 0 && (b * m.a - a * m.b) % size == 0;
        }

        /** By norm, then a, then b. */
        boolean isLessThan(Num n) {
            if (norm() != n.norm()) {
                return norm() < n.norm();
            }
            return a != n.a ? a < n.a : b < n.b;
        }

        void add(Num n) {
            a += n.a;
            b += n.b;
        }

        void subtract(Num n) {
            a -= n.a;
            b -= n.b;
        }

        void multiply(Num n) {
            long bothOmegas = b * n.b;
            long newB = a * n.b + b * n.a - bothOmegas;
            a = a * n.a - bothOmegas;
            b = newB;
        }

        void cube() {
            long newB = 3 * a * b * (a - b);
            a = a * a * a + b * b * b - 3 * a * b * b;
            b = newB;
        }

        void turn() {
            set(a - b, -b);
        }

        void multiplyByUnit(int u) {
            for (int i = 0; i < u && i < UNITS; i++) {
                long newB = a;
                a = a - b;
                b = newB;
            }
        }

        int unitNumber() {
            if (!isUnit()) {
                return NONE;
            }
            long x = 1;
            long y = 0;
            for (int u = 0; u < UNITS; u++) {
                if (isSame(x, y)) {
                    return u;
                }
                long ahead = x;
                x = x - y;
                y = ahead;
            }
            return NONE;
        }

        /** The q of n parted by m. */
        void becomeQuotient(Num n, Num m) {
            long size = m.norm();
            if (size < 1) {
                set(0, 0);
                return;
            }
            // n times m turned
            long up = n.a * (m.a - m.b) + n.b * m.b;
            long upOmegas = n.b * m.a - n.a * m.b;
            a = Math.floorDiv(2 * up + size, 2 * size);
            b = Math.floorDiv(2 * upOmegas + size, 2 * size);
        }

        /** Divides by 1 - w as often as that goes: how often; 0 stays as it is. */
        int takeOutThrees() {
            int k = 0;
            while (k < MOST_THREES && isOfThree() && !isNought()) {
                set((2 * a - b) / 3, (a + b) / 3);
                k++;
            }
            return k;
        }

        /** One of three, 0 too, stays as it is. */
        void makePrimary() {
            for (int i = 0; i < UNITS && !isPrimary() && !isOfThree(); i++) {
                multiplyByUnit(1);
            }
        }

        void makeOwn() {
            int k = takeOutThrees();
            makePrimary();
            for (int i = 0; i < k; i++) {
                // times 1 - w
                set(a + b, 2 * b - a);
            }
        }
    }

    /** Two numbers parted by each other till nothing is left. */
    private static final class Euclid {
        // each rest has at most three quarters of the norm ahead: some 70 are the most
        private static final int MOST = 128;

        /** How many q there are. */
        int count;
        /** The last that was not 0, and how often the first and the second are in it. */
        final Num last = new Num();
        final Num lastOfFirst = new Num();
        final Num lastOfSecond = new Num();
        private final Num next = new Num();
        private final Num nextOfFirst = new Num();
        private final Num nextOfSecond = new Num();
        private final Num q = new Num();
        private final long[] quotientA = new long[MOST];
        private final long[] quotientB = new long[MOST];

        void part(Num n, Num m) {
            last.copy(n);
            lastOfFirst.set(1, 0);
            lastOfSecond.set(0, 0);
            next.copy(m);
            nextOfFirst.set(0, 0);
            nextOfSecond.set(1, 0);
            count = 0;
            for (int i = 0; i < MOST && !next.isNought(); i++) {
                q.becomeQuotient(last, next);
                quotientA[i] = q.a;
                quotientB[i] = q.b;
                count++;
                goOn(last, next);
                goOn(lastOfFirst, nextOfFirst);
                goOn(lastOfSecond, nextOfSecond);
            }
        }

        /** The one two ahead less q times the one ahead. */
        private void goOn(Num before, Num now) {
            long bothOmegas = now.b * q.b;
            long nextA = before.a - (now.a * q.a - bothOmegas);
            long nextB = before.b - (now.a * q.b + now.b * q.a - bothOmegas);
            before.a = now.a;
            before.b = now.b;
            now.a = nextA;
            now.b = nextB;
        }

        void loadQuotient(int k, Num n) {
            if (k >= 0 && k < count && k < MOST) {
                n.set(quotientA[k], quotientB[k]);
            }
        }

        boolean arePrimeToEachOther(Num n, Num m) {
            part(n, m);
            return last.isUnit();
        }

        /** One of the class that is the inverse of n's by m: whether there is one. */
        boolean invert(Num n, Num m, Num answer) {
            if (!arePrimeToEachOther(n, m)) {
                return false;
            }
            // a unit turned is the unit's inverse
            answer.copy(last);
            answer.turn();
            answer.multiply(lastOfFirst);
            return true;
        }
    }

    /** The classes by a number: residues x + y w with x below width, y below step. */
    private static final class Modulus {
        long step = 1;
        long width = 1;
        /** The modulus divides slant + step w. */
        private long slant;
        private final Num square = new Num();

        boolean open(Num m) {
            long g = Whole.divisor(m.a, m.b);
            if (g < 1) {
                return false;
            }
            long a = m.a / g;
            long b = m.b / g;
            long inner = a * a - a * b + b * b;
            if (inner < 1) {
                return false;
            }
            step = g;
            width = g * inner;
            slant = g * Math.floorMod(a * Whole.inverseBy(b, inner), inner);
            return true;
        }

        /** Refuses a number of a norm beyond the limit, too. */
        boolean openFew(Num m, int limit) {
            return m.norm() <= limit && open(m);
        }

        int size() {
            return (int) (step * width);
        }

        int place(Num residue) {
            return (int) (residue.b * width + residue.a);
        }

        void reduce(Num n) {
            if (step < 1 || width < 1) {
                return;
            }
            long times = Math.floorDiv(n.b, step);
            n.a = Math.floorMod(n.a - times * slant, width);
            n.b = n.b - times * step;
        }

        /** The residue of n to the k comes into answer. */
        void raise(Num n, long k, Num answer) {
            long left = k;
            square.copy(n);
            reduce(square);
            answer.set(1, 0);
            reduce(answer);
            for (int i = 0; i < 63 && left > 0; i++) {
                if ((left & 1) == 1) {
                    answer.multiply(square);
                    reduce(answer);
                }
                square.multiply(square);
                reduce(square);
                left = left >> 1;
            }
        }
    }

    /** A number as a unit times powers of 1 - w times primary primes. */
    private static final class Factors {
        // no norm of a number has more than 14 primary primes: 4 to the 15 is beyond them
        private static final int MOST = 32;
        private static final int MOST_THREES = 60;

        int count;
        int threes;
        int unit;
        private final long[] primeA = new long[MOST];
        private final long[] primeB = new long[MOST];
        private final long[] norms = new long[MOST];
        private final Euclid euclid = new Euclid();
        private final Num left = new Num();
        private final Num found = new Num();
        private final Num product = new Num();

        /** Of n, not 0. */
        void spell(Num n) {
            count = 0;
            unit = 0;
            left.copy(n);
            threes = left.takeOutThrees();
            long g = Whole.divisor(left.a, left.b);
            if (g < 1) {
                return;
            }
            left.set(left.a / g, left.b / g);
            spellWhole(g);
            spellRest();
            findUnit(n);
        }

        private void spellWhole(long g) {
            long rest = g;
            for (long q = 2; q <= 100 && q * q <= rest; q++) {
                for (int i = 0; i < MOST && rest % q == 0; i++) {
                    addWhole(q);
                    rest = rest / q;
                }
            }
            if (rest > 1) {
                addWhole(rest);
            }
        }

        private void addWhole(long q) {
            if (q % 3 == 2) {
                found.set(q, 0);
                insert();
                return;
            }
            Primes.splitInto((int) q, found);
            insert();
            found.turn();
            insert();
        }

        /** No whole number divides what is left: its norm has primes 6 k + 1 alone, each one-sided. */
        private void spellRest() {
            long rest = left.norm();
            for (long p = 7; p <= 20000 && p * p <= rest; p += 6) {
                if (rest % p == 0) {
                    findDivisorOf(p);
                    for (int i = 0; i < MOST && rest % p == 0; i++) {
                        insert();
                        rest = rest / p;
                    }
                }
            }
            if (rest > 1) {
                findDivisorOf(rest);
                insert();
            }
        }

        private void findDivisorOf(long p) {
            found.set(p, 0);
            euclid.part(found, left);
            found.copy(euclid.last);
            found.makePrimary();
        }

        /** Puts what was found among the primes, by norm, then b. */
        private void insert() {
            if (count < 0 || count >= MOST) {
                return;
            }
            long norm = found.norm();
            int place = count;
            while (place > 0 && isBehind(place - 1, norm)) {
                primeA[place] = primeA[place - 1];
                primeB[place] = primeB[place - 1];
                norms[place] = norms[place - 1];
                place--;
            }
            primeA[place] = found.a;
            primeB[place] = found.b;
            norms[place] = norm;
            count++;
        }

        private boolean isBehind(int k, long norm) {
            if (k < 0 || k >= MOST) {
                return false;
            }
            return norms[k] > norm || norms[k] == norm && primeB[k] > found.b;
        }

        private void findUnit(Num n) {
            product.set(1, 0);
            for (int k = 0; k < count; k++) {
                load(k, found);
                product.multiply(found);
            }
            found.set(1, -1);
            for (int i = 0; i < threes && i < MOST_THREES; i++) {
                product.multiply(found);
            }
            for (int u = 0; u < Num.UNITS && !product.isSame(n); u++) {
                product.multiplyByUnit(1);
                unit = u + 1;
            }
        }

        void load(int k, Num n) {
            if (k >= 0 && k < count && k < MOST) {
                n.set(primeA[k], primeB[k]);
            }
        }

        /** All primes, each so often, 1 - w too: it stands ahead, of norm 3. */
        int total() {
            return threes + count;
        }

        private long normAt(int i) {
            int k = i - threes;
            return k >= 0 && k < MOST ? norms[k] : 3;
        }

        private boolean isRepeated(int i) {
            int k = i - threes;
            if (k < 0) {
                return i > 0;
            }
            return k > 0 && k < MOST && primeA[k] == primeA[k - 1] && primeB[k] == primeB[k - 1];
        }

        /** The norms of all own divisors together, or how many there are. */
        long divisorSum(boolean ofNorms) {
            long sum = 1;
            long ofThisPrime = 1;
            long power = 1;
            for (int i = 0; i < total(); i++) {
                if (!isRepeated(i)) {
                    sum *= ofThisPrime;
                    ofThisPrime = 1;
                    power = 1;
                }
                power *= normAt(i);
                ofThisPrime += ofNorms ? power : 1;
            }
            return sum * ofThisPrime;
        }

        /** How many classes are prime to the number. */
        long primeClasses() {
            long classes = 1;
            for (int i = 0; i < total(); i++) {
                classes *= isRepeated(i) ? normAt(i) : normAt(i) - 1;
            }
            return classes;
        }

        int squarefreeSign() {
            int sign = 1;
            for (int i = 0; i < total(); i++) {
                sign = isRepeated(i) ? 0 : -sign;
            }
            return sign;
        }
    }

    /** Whole primes that split, and the primary primes of small norm. */
    private static final class Primes {
        static final int LEAST_THIRD = 7;
        static final int LAST_THIRD = 997;
        private static final int MOST = 320;

        int count;
        private final int[] primeA = new int[MOST];
        private final int[] primeB = new int[MOST];
        private final Num found = new Num();

        static boolean isThird(int p) {
            return p >= LEAST_THIRD && p <= LAST_THIRD && p % 3 == 1 && Whole.isPrime(p);
        }

        /** The primary number of norm p, b above 0, of a prime p (10000 at most) that is 3 k + 1. */
        static void splitInto(int p, Num n) {
            int s = 0;
            for (int b = 3; b < 200 && 3 * b * b <= 4 * p; b += 3) {
                int v = 4 * p - 3 * b * b;
                s = Whole.rootFrom(v, s);
                if (s * s == v) {
                    n.set((b + s) / 2, b);
                    if (!n.isPrimary()) {
                        n.set((b - s) / 2, b);
                    }
                    return;
                }
            }
        }

        /** Fills the list of the primary primes, if that was not done yet. */
        void find() {
            if (count > 0) {
                return;
            }
            int q = 0;
            for (int norm = 4; norm <= FEW_CLASSES; norm++) {
                q = Whole.rootFrom(norm, q);
                if (norm % 3 == 1 && Whole.isPrime(norm)) {
                    splitInto(norm, found);
                    add((int) (found.a - found.b), (int) -found.b);
                    add((int) found.a, (int) found.b);
                } else if (q * q == norm && q % 3 == 2 && Whole.isPrime(q)) {
                    add(q, 0);
                }
            }
        }

        private void add(int a, int b) {
            if (count >= 0 && count < MOST) {
                primeA[count] = a;
                primeB[count] = b;
                count++;
            }
        }

        void load(int k, Num n) {
            if (k >= 0 && k < count && k < MOST) {
                n.set(primeA[k], primeB[k]);
            }
        }
    }

    /** The numbers of one norm, or of no greater one, row by row of like b. */
    private static final class Ring {
        int foundA;
        int foundB;
        int all;
        int mostOfOneRow;

        /** Counts those with norm n that are wanted, till the k-th is found: how many came. */
        int seek(int n, int what, int k) {
            int found = 0;
            int far = Whole.rootFrom(4 * n / 3, 0);
            int s = 0;
            for (int b = -far; b <= far; b++) {
                int v = 4 * n - 3 * b * b;
                s = Whole.rootFrom(v, s);
                if (s * s != v) {
                    continue;
                }
                for (int side = s == 0 ? 1 : -1; side <= 1; side += 2) {
                    int a = (b + side * s) / 2;
                    if (isWanted(a, b, what)) {
                        found++;
                        if (found - 1 == k) {
                            foundA = a;
                            foundB = b;
                            return found;
                        }
                    }
                }
            }
            return found;
        }

        private static boolean isWanted(int a, int b, int what) {
            switch (what) {
                case 0: return true;
                case 1: return a > 0 && b >= 0;
                default: return Math.floorMod(a, 3) == 2 && b % 3 == 0;
            }
        }

        void fillDisk(int n) {
            all = 0;
            mostOfOneRow = 0;
            int far = Whole.rootFrom(4 * n / 3, 0);
            int s = 0;
            for (int b = -far; b <= far; b++) {
                s = Whole.rootFrom(4 * n - 3 * b * b, s);
                // twice a less b runs from -s to s, and is odd as b is
                int inRow = (s + b) % 2 == 0 ? s + 1 : s;
                all += inRow;
                mostOfOneRow = Math.max(mostOfOneRow, inRow);
            }
        }
    }

    /** A number as a text. */
    private static final class Letters {
        private static final int MOST = 16;

        int count;
        private final int[] bytes = new int[MOST];

        void spellOut(int a, int b) {
            count = 0;
            if (a != 0 || b == 0) {
                addNumber(a);
            }
            if (b == 0) {
                return;
            }
            if (b > 0 && a != 0) {
                add('+');
            }
            if (b == -1) {
                add('-');
            } else if (b != 1) {
                addNumber(b);
            }
            add('w');
        }

        private void addNumber(int n) {
            if (n < 0) {
                add('-');
            }
            int left = Math.abs(n);
            boolean begun = false;
            for (int unit = 1000; unit >= 1; unit /= 10) {
                int digit = left / unit % 10;
                begun = begun || digit != 0 || unit == 1;
                if (begun) {
                    add('0' + digit);
                }
            }
        }

        private void add(int letter) {
            if (count >= 0 && count < MOST) {
                bytes[count] = letter;
                count++;
            }
        }

        int at(int k) {
            return k >= 0 && k < count && k < MOST ? bytes[k] : NONE;
        }
    }

    /** Bytes that wait to be read, and the reader of texts. */
    private static final class Tape {
        private static final int ROOM = 80;
        private static final int MOST_DIGITS = 4;
        private static final int CANNOT_STAND = 1;
        private static final int TOO_MANY_DIGITS = 2;
        private static final int TOLD_ALREADY = 3;
        private static final int END = -1;

        int size;
        /** What the text told: the part without w and the one with it. */
        int plain;
        int omegas;
        private final int[] bytes = new int[ROOM];
        private int end;
        private int place;
        private boolean plainTold;
        private boolean omegasTold;

        boolean hasRoomFor(int many) {
            return size + many <= ROOM;
        }

        void addBytesOf(int four) {
            for (int shift = 24; shift >= 0; shift -= 8) {
                if (size >= 0 && size < ROOM) {
                    bytes[size] = four >> shift & 255;
                    size++;
                }
            }
        }

        /** Reads the first n bytes: 0, or the fault. */
        int readText(int n) {
            end = n;
            place = 0;
            plain = 0;
            omegas = 0;
            plainTold = false;
            omegasTold = false;
            skipBlanks();
            int fault = readPart(true);
            for (int i = 0; i < ROOM && fault == 0 && place < end; i++) {
                fault = readPart(false);
            }
            return fault;
        }

        /** A part and the blanks behind it. */
        private int readPart(boolean first) {
            int start = place;
            boolean below = here() == '-';
            if (below || here() == '+') {
                place++;
                skipBlanks();
            } else if (!first) {
                return fault(CANNOT_STAND, place);
            }
            int digits = 0;
            int value = 0;
            while (digits < MOST_DIGITS && isDigit(here())) {
                value = 10 * value + here() - '0';
                digits++;
                place++;
            }
            if (isDigit(here())) {
                return fault(TOO_MANY_DIGITS, place);
            }
            skipBlanks();
            boolean omega = here() == 'w';
            if (omega) {
                place++;
                skipBlanks();
            } else if (digits == 0) {
                return fault(CANNOT_STAND, place);
            }
            if (omega ? omegasTold : plainTold) {
                return fault(TOLD_ALREADY, start);
            }
            int amount = digits == 0 ? 1 : value;
            tell(omega, below ? -amount : amount);
            return 0;
        }

        private void tell(boolean omega, int value) {
            if (omega) {
                omegas = value;
                omegasTold = true;
            } else {
                plain = value;
                plainTold = true;
            }
        }

        private static int fault(int number, int place) {
            return -1000 * number - place;
        }

        private static boolean isDigit(int letter) {
            return letter >= '0' && letter <= '9';
        }

        private int here() {
            return place >= 0 && place < end && place < ROOM ? bytes[place] : END;
        }

        private void skipBlanks() {
            for (int i = 0; i < ROOM && here() == ' '; i++) {
                place++;
            }
        }
    }

    /** Eight drawers, and their states that are kept. */
    private static final class Drawers {
        static final int MANY = 8;
        private static final int MOST_KEPT = 12;

        /** A bit for each drawer that is not empty. */
        int full;
        int kept;
        private final int[] partA = new int[MANY];
        private final int[] partB = new int[MANY];
        private final int[] keptA = new int[MANY * MOST_KEPT];
        private final int[] keptB = new int[MANY * MOST_KEPT];
        private final int[] keptFull = new int[MOST_KEPT];

        static boolean isOne(int d) {
            return d >= 0 && d < MANY;
        }

        boolean has(int d) {
            return isOne(d) && (full >> d & 1) == 1;
        }

        void fill(int d, int a, int b) {
            if (isOne(d)) {
                partA[d] = a;
                partB[d] = b;
                full = full | 1 << d;
            }
        }

        void clear(int d) {
            if (isOne(d)) {
                full = full & ~(1 << d);
            }
        }

        void load(int d, Num n) {
            if (isOne(d)) {
                n.set(partA[d], partB[d]);
            }
        }

        boolean pushState() {
            if (kept < 0 || kept >= MOST_KEPT) {
                return false;
            }
            for (int d = 0; d < MANY; d++) {
                keptA[kept * MANY + d] = partA[d];
                keptB[kept * MANY + d] = partB[d];
            }
            keptFull[kept] = full;
            kept++;
            return true;
        }

        boolean popState() {
            if (kept < 1 || kept > MOST_KEPT) {
                return false;
            }
            kept--;
            for (int d = 0; d < MANY; d++) {
                partA[d] = keptA[kept * MANY + d];
                partB[d] = keptB[kept * MANY + d];
            }
            full = keptFull[kept];
            return true;
        }
    }
}
