import java.util.ArrayList;
import java.util.HashMap;
import java.util.List;
import java.util.Map;
import java.util.Random;

/** Random calls against the brute force of Oracle, and great numbers against what must hold of them. */
public final class OracleTest {
    private static final int NO = Integer.MIN_VALUE;
    private static final int NONE = CubicSigns.NONE;
    private static final Check check = new Check("OracleTest");
    private static final Random random = new Random(20261118);

    public static void main(String[] args) {
        for (int i = 0; i < 2500; i++) {
            reckoned(small(9), small(9));
            classes(small(5), small(5));
        }
        for (int i = 0; i < 60; i++) {
            wholeGroups(small(4));
        }
        for (int i = 0; i < 300; i++) {
            pairsOfClasses(small(4), small(3), small(4), small(3));
        }
        int[][] widest = {{44, 0}, {44, 3}, {-25, 25}, {42, 21}, {9, -39}, {40, 20}, {13, 48}, {27, -18}};
        for (int[] m : widest) {
            widestClasses(new Oracle.Z(m[0], m[1]));
        }
        for (int i = 0; i < 4000; i++) {
            great(any(), any());
            greatPair(any(), small(110), any(), small(90));
        }
        primesOfSmallNorm();
        for (int p = -3; p < 1010; p++) {
            wholePrime(p);
        }
        rings();
        crowds();
        drawsAndFloats();
        check.end();
    }

    private static void due(String call, long got, long want) {
        check.due(call, got, want);
    }

    private static Oracle.Z small(int far) {
        return new Oracle.Z(random.nextInt(2 * far + 1) - far, random.nextInt(2 * far + 1) - far);
    }

    /** Any number, those at the edges often. */
    private static Oracle.Z any() {
        return new Oracle.Z(anyPart(), anyPart());
    }

    private static int anyPart() {
        switch (random.nextInt(6)) {
            case 0: return random.nextBoolean() ? 9999 : -9999;
            case 1: return random.nextInt(21) - 10;
            default: return random.nextInt(19999) - 9999;
        }
    }

    private static CubicSigns with(Oracle.Z... numbers) {
        CubicSigns x = new CubicSigns();
        for (int d = 0; d < numbers.length; d++) {
            due("put", x.put(d, (int) numbers[d].a(), (int) numbers[d].b()) ? 1 : 0, 1);
        }
        return x;
    }

    private static int part(Oracle.Z z, int what) {
        return (int) (what == 0 ? z.a() : what == 1 ? z.b() : z.norm());
    }

    private static void holds(String call, CubicSigns x, int d, Oracle.Z z) {
        due(call + " a", x.told(d, 0), z.a());
        due(call + " b", x.told(d, 1), z.b());
    }

    private static void reckoned(Oracle.Z n, Oracle.Z m) {
        CubicSigns x = with(n, m);
        String of = " of " + n + ", " + m;
        boolean nought = n.equals(Oracle.ZERO);
        due("three" + of, x.told(0, 3), Oracle.divides(Oracle.THREE, n) ? 1 : 0);
        due("primary" + of, x.told(0, 4), n.primary() ? 1 : 0);
        due("prime" + of, x.told(0, 5), Oracle.prime(n) ? 1 : 0);
        due("unit" + of, x.told(0, 6), Oracle.unit(n));
        due("threes" + of, x.told(0, 7), nought ? -1 : Oracle.threes(n));
        due("alike" + of, x.are(0, 1, 0), Oracle.alike(n, m) ? 1 : 0);
        due("prime to" + of, x.are(0, 1, 1), Oracle.primeTo(n, m) ? 1 : 0);
        due("divides" + of, x.are(0, 1, 2), Oracle.divides(n, m) ? 1 : 0);
        due("steps" + of, x.steps(0, 1), Oracle.steps(n, m));
        worked(x, n, m);
        if (!nought) {
            spelled(x, n);
        }
        if (x.told(1, 3) == 0 && m.norm() > 1) {
            signed(x, n, m);
        }
    }

    private static void worked(CubicSigns x, Oracle.Z n, Oracle.Z m) {
        String of = " of " + n + ", " + m;
        boolean byNought = m.equals(Oracle.ZERO);
        boolean bothNought = byNought && n.equals(Oracle.ZERO);
        Oracle.Z q = byNought ? null : Oracle.quotient(n, m);
        Oracle.Z[] want = {
            n.plus(m), n.minus(m), n.times(m), q, byNought ? null : n.minus(q.times(m)),
            bothNought ? null : Oracle.gcd(n, m),
        };
        for (int how = 0; how < 6; how++) {
            due("work " + how + of, x.work(0, 1, 2, how), want[how] == null ? -3 : want[how].norm());
            if (want[how] != null) {
                holds("work " + how + of, x, 2, want[how]);
            }
        }
        x.put(2, (int) n.a(), (int) n.b());
        due("own" + of, x.change(2, 1), n.norm());
        holds("own" + of, x, 2, Oracle.own(n));
    }

    private static void spelled(CubicSigns x, Oracle.Z n) {
        List<Oracle.Z> primes = Oracle.written(n);
        due("primes of " + n, x.written(0, NONE, 0), primes.size());
        due("threes of " + n, x.written(0, NONE, 1), Oracle.threes(n));
        due("unit of " + n, x.written(0, NONE, 2), Oracle.unitOf(n));
        for (int k = 0; k < primes.size(); k++) {
            for (int what = 0; what < 3; what++) {
                due("prime " + k + " of " + n, x.written(0, k, what), part(primes.get(k), what));
            }
        }
        List<Oracle.Z> own = Oracle.ownDivisors(n);
        due("divisors of " + n, x.divisors(0, 0), own.size());
        due("divisors' norms of " + n, x.divisors(0, 1), own.stream().mapToLong(Oracle.Z::norm).sum());
        due("square of " + n, x.divisors(0, 3), squarefree(own, n));
        if (n.norm() <= 30) {
            due("classes prime to " + n, x.divisors(0, 2), Oracle.primeClasses(n));
        }
    }

    private static int squarefree(List<Oracle.Z> own, Oracle.Z n) {
        int sign = 1;
        for (Oracle.Z p : own) {
            if (Oracle.prime(p)) {
                if (Oracle.divides(p.times(p), n)) {
                    return 0;
                }
                sign = -sign;
            }
        }
        return sign;
    }

    private static void signed(CubicSigns x, Oracle.Z n, Oracle.Z m) {
        String of = " of " + n + " by " + m;
        due("sign" + of, x.sign(0, 1), Oracle.sign(n, m));
        List<Oracle.Z> primes = Oracle.written(m);
        for (int k = 0; k < primes.size(); k++) {
            due("signBy " + k + of, x.signBy(0, 1, k), Oracle.signByPrime(n, primes.get(k)));
        }
        due("signBy beyond" + of, x.signBy(0, 1, primes.size()), -4);
        Oracle.Z[] which = {Oracle.W, Oracle.THREE, new Oracle.Z(3, 0), new Oracle.Z(2, 0)};
        for (int k = 0; k < which.length; k++) {
            due("supplement " + k + of, x.supplement(1, k), Oracle.sign(which[k], m));
        }
        boolean both = n.primary() && m.primary() && n.norm() > 1 && Oracle.primeTo(n, m);
        due("turned" + of, x.turned(0, 1), both ? 3 * Oracle.sign(n, m) + Oracle.sign(m, n) : -3);
        if (both) {
            due("reciprocity" + of, x.turned(0, 1) % 4, 0);
        }
        boolean prime = Oracle.prime(m);
        Oracle.Z power = Oracle.residue(Oracle.power(n, (m.norm() - 1) / 3, m), m);
        for (int what = 0; what < 2; what++) {
            due("direct" + of, x.direct(0, 1, what), prime ? part(power, what) : -3);
        }
    }

    private static void classes(Oracle.Z n, Oracle.Z m) {
        CubicSigns x = with(n, m, small(20));
        Oracle.Z e = new Oracle.Z(x.told(2, 0), x.told(2, 1));
        String of = " of " + n + " by " + m;
        if (m.equals(Oracle.ZERO)) {
            due("by 0" + of, x.residue(0, 1, 0), -3);
            due("by 0" + of, x.least(0, 1, 0), NO);
            return;
        }
        int k = random.nextBoolean() ? random.nextInt(20) : random.nextInt(1000000001);
        Oracle.Z inverse = Oracle.inverse(n, m);
        List<Oracle.Z> roots = Oracle.roots(n, m);
        List<Oracle.Z> linear = Oracle.linear(n, e, m);
        for (int what = 0; what < 2; what++) {
            due("residue" + of, x.residue(0, 1, what), part(Oracle.residue(n, m), what));
            due("power " + k + of, x.power(0, k, 1, what), part(Oracle.residue(Oracle.power(n, k, m), m), what));
            due("inverse" + of, x.inverse(0, 1, what), inverse == null ? -4 : part(inverse, what));
            due("least" + of, x.least(0, 1, what), part(Oracle.least(n, m), what));
            due("roots" + of, x.root(0, 1, NONE, what), roots.size());
            due("linear" + of + " to " + e, x.linear(0, 2, 1, NONE, what), linear.size());
            for (int i = 0; i <= roots.size(); i++) {
                due("root " + i + of, x.root(0, 1, i, what), i < roots.size() ? part(roots.get(i), what) : -4);
            }
            for (int i = 0; i <= linear.size(); i++) {
                due("linear " + i + of + " to " + e, x.linear(0, 2, 1, i, what), i < linear.size() ? part(linear.get(i), what) : -4);
            }
        }
        due("classes" + of, x.classes(1, 0), m.norm());
        due("order" + of, x.order(0, 1), Oracle.primeTo(n, m) ? Oracle.order(n, m) : -4);
    }

    private static void wholeGroups(Oracle.Z m) {
        if (m.equals(Oracle.ZERO)) {
            return;
        }
        CubicSigns x = with(m);
        due("prime classes by " + m, x.classes(0, 1), Oracle.primeClasses(m));
        due("cubes by " + m, x.classes(0, 2), Oracle.cubes(m));
        int[] greatest = Oracle.greatest(m);
        due("greatest by " + m, x.greatest(0, 0), greatest[0]);
        due("greatest by " + m, x.greatest(0, 1), greatest[1]);
        for (int many = 0; many < 12; many++) {
            due("spread " + many + " by " + m, x.spread(0, many), Oracle.spread(m, many));
        }
    }

    /** Of norms up to 2000: roots, orders and how the roots are spread. */
    private static void widestClasses(Oracle.Z m) {
        due("norm of " + m + " is 2000 at most", m.norm() <= 2000 ? 1 : 0, 1);
        Map<Integer, Integer> spread = new HashMap<>();
        int step = 0;
        for (Oracle.Z r : Oracle.residues(m)) {
            List<Oracle.Z> roots = Oracle.roots(r, m);
            spread.merge(roots.size(), 1, Integer::sum);
            step++;
            if (step % 40 == 0) {
                CubicSigns x = with(r, m);
                due("roots of " + r + " by " + m, x.root(0, 1, NONE, 0), roots.size());
                for (int k = 0; k < roots.size() && k < 4; k++) {
                    due("root of " + r + " by " + m, x.root(0, 1, k, 0), roots.get(k).a());
                    due("root of " + r + " by " + m, x.root(0, 1, k, 1), roots.get(k).b());
                }
                due("order of " + r + " by " + m, x.order(0, 1), Oracle.primeTo(r, m) ? Oracle.order(r, m) : -4);
            }
        }
        CubicSigns x = with(m);
        for (int many = 0; many <= 2000; many++) {
            due("spread " + many + " by " + m, x.spread(0, many), spread.getOrDefault(many, 0));
        }
        due("greatest by " + m, x.greatest(0, 0) == -3 ? 1 : 0, m.norm() > 500 ? 1 : 0);
    }

    private static void greatPair(Oracle.Z n, Oracle.Z e, Oracle.Z f, Oracle.Z g) {
        CubicSigns x = with(n, e, f, g);
        Oracle.Z by = e.times(g);
        boolean unfit = e.norm() == 0 || g.norm() == 0 || x.are(1, 3, 1) == 0;
        boolean fits = Math.max(Math.abs(by.a()), Math.abs(by.b())) <= 9999;
        if (unfit || !fits) {
            due("both refused", x.both(0, 1, 2, 3, 0), unfit ? -3 : -4);
            return;
        }
        Oracle.Z both = new Oracle.Z(x.both(0, 1, 2, 3, 0), x.both(0, 1, 2, 3, 1));
        isResidue("both", both, both, by);
        due("both by " + e, Oracle.divides(e, both.minus(n)) ? 1 : 0, 1);
        due("both by " + g, Oracle.divides(g, both.minus(f)) ? 1 : 0, 1);
    }

    private static void pairsOfClasses(Oracle.Z n, Oracle.Z e, Oracle.Z f, Oracle.Z g) {
        CubicSigns x = with(n, e, f, g);
        boolean unfit = e.equals(Oracle.ZERO) || g.equals(Oracle.ZERO) || !Oracle.primeTo(e, g);
        Oracle.Z both = unfit ? null : Oracle.both(n, e, f, g);
        for (int what = 0; what < 2; what++) {
            due("both " + n + e + f + g, x.both(0, 1, 2, 3, what), unfit ? -3 : part(both, what));
        }
    }

    /** What must hold of numbers too great for brute force. */
    private static void great(Oracle.Z n, Oracle.Z m) {
        CubicSigns x = with(n, m);
        parted(x, n, m);
        greatSpelling(x, n);
        greatOwn(x, n);
        if (m.norm() == 0) {
            return;
        }
        String of = " of " + n + " by " + m;
        int k = random.nextInt(1000000001);
        Oracle.Z residue = new Oracle.Z(x.residue(0, 1, 0), x.residue(0, 1, 1));
        isResidue("residue" + of, residue, n, m);
        isResidue("power" + of, new Oracle.Z(x.power(0, k, 1, 0), x.power(0, k, 1, 1)), Oracle.power(n, k, m), m);
        boolean primeTo = x.are(0, 1, 1) == 1;
        due("inverse is" + of, x.inverse(0, 1, 0) == -4 ? 0 : 1, primeTo ? 1 : 0);
        if (primeTo) {
            Oracle.Z inverse = new Oracle.Z(x.inverse(0, 1, 0), x.inverse(0, 1, 1));
            Oracle.Z product = bigTimes(inverse, n, m);
            due("inverse" + of, Oracle.divides(m, product.minus(Oracle.ONE)) ? 1 : 0, 1);
            isResidue("inverse" + of, inverse, inverse, m);
        }
        greatLeast(x, n, m);
        greatSign(x, n, m, of);
    }

    private static Oracle.Z bigTimes(Oracle.Z n, Oracle.Z m, Oracle.Z by) {
        long size = by.norm();
        Oracle.Z product = n.times(new Oracle.Z(m.a() % size, m.b() % size));
        return new Oracle.Z(product.a() % size, product.b() % size);
    }

    private static void isResidue(String call, Oracle.Z r, Oracle.Z n, Oracle.Z m) {
        long g = java.math.BigInteger.valueOf(m.a()).gcd(java.math.BigInteger.valueOf(m.b())).longValue();
        boolean inBounds = r.b() >= 0 && r.b() < g && r.a() >= 0 && r.a() < m.norm() / g;
        due(call + " in bounds", inBounds ? 1 : 0, 1);
        due(call + " in its class", Oracle.divides(m, n.minus(r)) ? 1 : 0, 1);
    }

    private static void parted(CubicSigns x, Oracle.Z n, Oracle.Z m) {
        String of = " of " + n + ", " + m;
        List<Oracle.Z> q = new ArrayList<>();
        Oracle.Z[] last = {n, Oracle.ONE, Oracle.ZERO};
        Oracle.Z[] next = {m, Oracle.ZERO, Oracle.ONE};
        while (next[0].norm() != 0) {
            Oracle.Z by = Oracle.quotient(last[0], next[0]);
            q.add(by);
            Oracle.Z[] rest = new Oracle.Z[3];
            for (int i = 0; i < 3; i++) {
                rest[i] = last[i].minus(by.times(next[i]));
            }
            last = next;
            next = rest;
        }
        due("partings" + of, x.partings(0, 1), q.size());
        for (int what = 0; what < 2; what++) {
            for (int k = 0; k < q.size(); k++) {
                due("q " + k + of, x.parting(0, 1, k, what), part(q.get(k), what));
            }
            due("beyond" + of, x.parting(0, 1, q.size(), what), NO);
            for (int i = 0; i < 3; i++) {
                due("last " + i + of, x.parting(0, 1, NONE, 2 * i + what), part(last[i], what));
            }
        }
        due("rest", last[1].times(n).plus(last[2].times(m)).equals(last[0]) ? 1 : 0, 1);
        Oracle.Z own = Oracle.own(last[0]);
        boolean fits = Math.max(Math.abs(own.a()), Math.abs(own.b())) <= 9999;
        boolean bothNought = n.norm() == 0 && m.norm() == 0;
        due("divisor" + of, x.work(0, 1, 2, 5), bothNought ? -3 : fits ? own.norm() : -4);
        if (fits && !bothNought) {
            holds("divisor" + of, x, 2, own);
        }
    }

    private static void greatSpelling(CubicSigns x, Oracle.Z n) {
        int many = x.written(0, NONE, 0);
        if (n.norm() == 0) {
            due("written of 0", many, NO);
            return;
        }
        Oracle.Z product = Oracle.UNITS.get(x.written(0, NONE, 2));
        for (int i = 0; i < x.written(0, NONE, 1); i++) {
            product = product.times(Oracle.THREE);
        }
        long norm = 0;
        long b = 0;
        for (int k = 0; k < many; k++) {
            Oracle.Z p = new Oracle.Z(x.written(0, k, 0), x.written(0, k, 1));
            due("norm of " + p, x.written(0, k, 2), p.norm());
            boolean rises = p.norm() > norm || p.norm() == norm && p.b() >= b;
            due("primes of " + n + " rise", rises ? 1 : 0, 1);
            due(p + " is primary", p.primary() ? 1 : 0, 1);
            due(p + " is prime", isPrimeByNorm(p) ? 1 : 0, 1);
            norm = p.norm();
            b = p.b();
            product = product.times(p);
        }
        due("primes of " + n + " together", product.equals(n) ? 1 : 0, 1);
        due("prime " + n, x.told(0, 5), isPrimeByNorm(n) ? 1 : 0);
    }

    private static boolean isPrimeByNorm(Oracle.Z p) {
        java.math.BigInteger norm = java.math.BigInteger.valueOf(p.norm());
        java.math.BigInteger root = norm.sqrt();
        boolean inert = root.multiply(root).equals(norm) && root.intValue() % 3 == 2 && root.isProbablePrime(40);
        return inert || norm.isProbablePrime(40);
    }

    private static void greatOwn(CubicSigns x, Oracle.Z n) {
        for (int how = 0; how < 8; how++) {
            Oracle.Z want = how == 0 ? n.turned() : how == 1 ? Oracle.own(n) : n.times(Oracle.UNITS.get(how - 2));
            boolean fits = Math.max(Math.abs(want.a()), Math.abs(want.b())) <= 9999;
            x.put(3, (int) n.a(), (int) n.b());
            due("change " + how + " of " + n, x.change(3, how), fits ? want.norm() : -4);
            holds("change " + how + " of " + n, x, 3, fits ? want : n);
        }
    }

    private static void greatLeast(CubicSigns x, Oracle.Z n, Oracle.Z m) {
        Oracle.Z least = new Oracle.Z(x.least(0, 1, 0), x.least(0, 1, 1));
        due("least in its class", Oracle.divides(m, n.minus(least)) ? 1 : 0, 1);
        for (Oracle.Z step : Oracle.disk(7)) {
            Oracle.Z other = least.plus(step.times(m));
            boolean like = other.norm() == least.norm();
            boolean lower = other.a() < least.a() || other.a() == least.a() && other.b() < least.b();
            due("least of " + n + " by " + m, other.norm() < least.norm() || like && lower ? 0 : 1, 1);
        }
        due("least is in bounds", Math.max(Math.abs(least.a()), Math.abs(least.b())) <= 9999 ? 1 : 0, 1);
    }

    private static void greatSign(CubicSigns x, Oracle.Z n, Oracle.Z m, String of) {
        if (x.told(1, 3) == 1 || m.norm() == 1) {
            due("sign" + of, x.sign(0, 1), -3);
            return;
        }
        int sum = 0;
        boolean divided = false;
        for (int k = 0; k < x.written(1, NONE, 0); k++) {
            int sign = Oracle.signByPrime(n, new Oracle.Z(x.written(1, k, 0), x.written(1, k, 1)));
            due("signBy " + k + of, x.signBy(0, 1, k), sign);
            divided = divided || sign == 3;
            sum += sign;
        }
        due("sign" + of, x.sign(0, 1), divided ? 3 : sum % 3);
        if (n.primary() && m.primary() && n.norm() > 1 && !divided) {
            due("reciprocity" + of, x.turned(0, 1), 4 * (sum % 3));
        }
    }

    private static void primesOfSmallNorm() {
        CubicSigns x = new CubicSigns();
        int k = 0;
        for (Oracle.Z z : Oracle.disk(2000)) {
            if (z.primary() && isPrimeByNorm(z)) {
                for (int what = 0; what < 3; what++) {
                    due("primeAt " + k, x.primeAt(k, what), part(z, what));
                }
                k++;
            }
        }
        due("primeAt how many", x.primeAt(NONE, 0), k);
    }

    private static void wholePrime(int p) {
        CubicSigns x = new CubicSigns();
        if (!Oracle.third(p)) {
            due("prime(" + p + ", 0)", x.prime(p, 0), NO);
            due("sum(" + p + ", 3)", x.sum(p, 3), NO);
            due("split(" + p + ", 0)", x.split(p, 0), NONE);
            return;
        }
        Oracle.Z split = Oracle.split(p);
        int[] form = Oracle.form(p);
        int cube = 2;
        while (!Oracle.cube(cube, p)) {
            cube++;
        }
        int other = 2;
        while (Oracle.cube(other, p)) {
            other++;
        }
        int two = Oracle.cube(2, p) ? 1 : 0;
        int three = Oracle.cube(3, p) ? 1 : 0;
        int[] want = {part(split, 0), part(split, 1), form[0], form[1], two, three, cube, other};
        for (int what = 0; what < 8; what++) {
            due("prime(" + p + ", " + what + ")", x.prime(p, what), want[what]);
        }
        Oracle.Z sum = Oracle.sum(p);
        for (int what = 0; what < 3; what++) {
            due("sum(" + p + ", " + what + ")", x.sum(p, what), part(sum, what));
        }
        due("sum(" + p + ", 3)", x.sum(p, 3), Oracle.points(p));
        due("split(" + p + ", 5)", x.split(p, 5), split.b());
        holds("split(" + p + ", 5)", x, 5, split);
    }

    private static void rings() {
        CubicSigns x = new CubicSigns();
        List<Oracle.Z> all = Oracle.disk(400);
        for (int n = 0; n <= 400; n++) {
            int most = n;
            List<Oracle.Z> ring = all.stream().filter(z -> z.norm() == most).toList();
            due("ring(" + n + ", 0)", x.ring(n, 0), ring.size());
            due("ring(" + n + ", 1)", x.ring(n, 1), ring.stream().filter(z -> z.a() > 0 && z.b() >= 0).count());
            due("ring(" + n + ", 2)", x.ring(n, 2), ring.stream().filter(Oracle.Z::primary).count());
            for (int k = 0; k <= ring.size(); k++) {
                for (int what = 0; what < 2; what++) {
                    due("ringAt(" + n + ", " + k + ")", x.ringAt(n, k, what), k < ring.size() ? part(ring.get(k), what) : NO);
                }
            }
            int[] rows = new int[100];
            all.stream().filter(z -> z.norm() <= most).forEach(z -> rows[(int) z.b() + 50]++);
            due("disk(" + n + ", 0)", x.disk(n, 0), java.util.Arrays.stream(rows).sum());
            due("disk(" + n + ", 1)", x.disk(n, 1), java.util.Arrays.stream(rows).max().getAsInt());
        }
        int[] great = {1000000, 999999, 999997, 994009, 919, 912247, 790000, 823543, 531441, 753571};
        List<Oracle.Z> wide = Oracle.disk(1000000);
        for (int n : great) {
            List<Oracle.Z> ring = wide.stream().filter(z -> z.norm() == n).toList();
            due("ring(" + n + ", 0)", x.ring(n, 0), ring.size());
            due("disk(" + n + ", 0)", x.disk(n, 0), wide.stream().filter(z -> z.norm() <= n).count());
            for (int k = 0; k < ring.size(); k++) {
                due("ringAt(" + n + ", " + k + ", 0)", x.ringAt(n, k, 0), ring.get(k).a());
                due("ringAt(" + n + ", " + k + ", 1)", x.ringAt(n, k, 1), ring.get(k).b());
            }
        }
    }

    private static void crowds() {
        for (int i = 0; i < 200; i++) {
            Oracle.Z n = random.nextBoolean() ? any() : small(10);
            CubicSigns x = with(n);
            int many = 1 + random.nextInt(100);
            int[] want = new int[4];
            for (int k = 0; k < many; k++) {
                want[Oracle.signByPrime(n, new Oracle.Z(x.primeAt(k, 0), x.primeAt(k, 1)))]++;
            }
            for (int what = 0; what < 4; what++) {
                due("crowd of " + n, x.crowd(0, many, what), want[what]);
            }
        }
    }

    private static void drawsAndFloats() {
        CubicSigns x = new CubicSigns();
        for (int i = 0; i < 2000; i++) {
            int seed = random.nextInt();
            int far = 1 + random.nextInt(1000);
            long first = (25173L * (seed & 0xFFFF) + 13849) % 65536;
            long second = (25173L * first + 13849) % 65536;
            due("drawn", x.drawn(i % 8, seed, far), second);
            Oracle.Z want = new Oracle.Z(first / 4 % (2 * far + 1) - far, second / 4 % (2 * far + 1) - far);
            holds("drawn", x, i % 8, want);
            floats(any());
        }
    }

    private static void floats(Oracle.Z n) {
        Oracle.Z m = any();
        CubicSigns x = with(n, m, small(3));
        float norm = (float) (int) n.norm();
        float root = norm * 0.5f;
        for (int i = 0; i < 6 && n.norm() != 0; i++) {
            float through = norm / root;
            float together = root + through;
            root = together * 0.5f;
        }
        due("length of " + n, x.length(0), (int) (root * 1000f));
        for (int what = 0; what < 2; what++) {
            float sum = 0f;
            for (int d = 0; d < 3; d++) {
                sum += (float) x.told(d, what);
            }
            due("middle", x.middle(what), (int) (sum / 3f * 100f));
        }
        long second = n.minus(m).norm();
        long third = n.minus(new Oracle.Z(x.told(2, 0), x.told(2, 1))).norm();
        due("nearest", x.nearest(0, 0), third < second ? 2 : 1);
        due("nearest", x.nearest(0, 1), Math.min(second, third));
    }
}
