import java.math.BigInteger;
import java.util.ArrayDeque;
import java.util.ArrayList;
import java.util.Comparator;
import java.util.HashMap;
import java.util.HashSet;
import java.util.List;
import java.util.Map;
import java.util.Set;

/** The document's terms once more, each looked up by brute force from its own words. */
final class Oracle {
    record Z(long a, long b) {
        long norm() {
            return a * a - a * b + b * b;
        }

        Z plus(Z n) {
            return new Z(a + n.a, b + n.b);
        }

        Z minus(Z n) {
            return new Z(a - n.a, b - n.b);
        }

        /** By w w = -1 - w. */
        Z times(Z n) {
            long ww = b * n.b;
            return new Z(a * n.a - ww, a * n.b + b * n.a - ww);
        }

        Z turned() {
            return new Z(a - b, -b);
        }

        boolean primary() {
            return ((a - 2) % 3 == 0) && b % 3 == 0;
        }
    }

    static final Z ZERO = new Z(0, 0);
    static final Z ONE = new Z(1, 0);
    static final Z W = new Z(0, 1);
    static final Z THREE = new Z(1, -1);
    static final List<Z> UNITS = List.of(ONE, new Z(1, 1), W, new Z(-1, 0), new Z(-1, -1), new Z(0, -1));

    private Oracle() {
    }

    /** All numbers with norm 0 to most, by norm, b, a. */
    static List<Z> disk(long most) {
        List<Z> all = new ArrayList<>();
        long far = 2;
        while (3 * far * far < 4 * most) {
            far++;
        }
        for (long b = -far; b <= far; b++) {
            for (long a = -far; a <= far; a++) {
                Z z = new Z(a, b);
                if (z.norm() <= most) {
                    all.add(z);
                }
            }
        }
        all.sort(Comparator.comparingLong(Z::norm).thenComparingLong(Z::b).thenComparingLong(Z::a));
        return all;
    }

    static boolean divides(Z m, Z n) {
        if (m.equals(ZERO)) {
            return n.equals(ZERO);
        }
        Z up = n.times(m.turned());
        return up.a % m.norm() == 0 && up.b % m.norm() == 0;
    }

    static Z through(Z n, Z m) {
        Z up = n.times(m.turned());
        return new Z(up.a / m.norm(), up.b / m.norm());
    }

    /** The greatest whole q with 2 q size at most 2 up + size, looked for from far below. */
    private static long near(long up, long size) {
        long q = up / size - 3;
        while (2 * (q + 1) * size <= 2 * up + size) {
            q++;
        }
        return q;
    }

    static Z quotient(Z n, Z m) {
        Z up = n.times(m.turned());
        return new Z(near(up.a, m.norm()), near(up.b, m.norm()));
    }

    static int unit(Z n) {
        return UNITS.indexOf(n);
    }

    static boolean alike(Z n, Z m) {
        return UNITS.stream().anyMatch(u -> u.times(n).equals(m));
    }

    static int threes(Z n) {
        int k = 0;
        Z left = n;
        while (divides(THREE, left)) {
            left = through(left, THREE);
            k++;
        }
        return k;
    }

    static Z own(Z n) {
        if (n.equals(ZERO)) {
            return n;
        }
        int k = threes(n);
        Z power = ONE;
        for (int i = 0; i < k; i++) {
            power = power.times(THREE);
        }
        Z rest = through(n, power);
        for (Z u : UNITS) {
            if (u.times(rest).primary()) {
                return u.times(rest).times(power);
            }
        }
        throw new IllegalStateException("no primary one of " + n);
    }

    /** Own ones that divide n, by norm, then b. */
    static List<Z> ownDivisors(Z n) {
        List<Z> all = new ArrayList<>();
        for (Z z : disk(n.norm())) {
            if (!z.equals(ZERO) && divides(z, n) && own(z).equals(z)) {
                all.add(z);
            }
        }
        return all;
    }

    static Z gcd(Z n, Z m) {
        Z least = n.equals(ZERO) || !m.equals(ZERO) && m.norm() < n.norm() ? m : n;
        List<Z> all = ownDivisors(least);
        for (int i = all.size() - 1; i >= 0; i--) {
            if (divides(all.get(i), n) && divides(all.get(i), m)) {
                return all.get(i);
            }
        }
        throw new IllegalStateException("no divisor of " + n + " and " + m);
    }

    static boolean primeTo(Z n, Z m) {
        return !(n.equals(ZERO) && m.equals(ZERO)) && gcd(n, m).norm() == 1;
    }

    static boolean prime(Z n) {
        return n.norm() > 1 && ownDivisors(n).size() == 2;
    }

    /** The primary primes of n, each so often. */
    static List<Z> written(Z n) {
        List<Z> all = new ArrayList<>();
        Z left = n;
        for (Z p : ownDivisors(n)) {
            if (p.primary() && prime(p)) {
                while (divides(p, left)) {
                    all.add(p);
                    left = through(left, p);
                }
            }
        }
        return all;
    }

    static int unitOf(Z n) {
        Z product = ONE;
        for (Z p : written(n)) {
            product = product.times(p);
        }
        for (int i = 0; i < threes(n); i++) {
            product = product.times(THREE);
        }
        return unit(through(n, product));
    }

    /** RESIDUES by m, by y, then x. */
    static List<Z> residues(Z m) {
        long g = BigInteger.valueOf(m.a).gcd(BigInteger.valueOf(m.b)).longValue();
        List<Z> all = new ArrayList<>();
        for (long y = 0; y < g; y++) {
            for (long x = 0; x < m.norm() / g; x++) {
                all.add(new Z(x, y));
            }
        }
        return all;
    }

    static Z residue(Z n, Z m) {
        for (Z r : residues(m)) {
            if (divides(m, n.minus(r))) {
                return r;
            }
        }
        throw new IllegalStateException("no residue of " + n + " by " + m);
    }

    /** By squares whose parts are cut by the norm, which m divides. */
    static Z power(Z n, long k, Z m) {
        BigInteger size = BigInteger.valueOf(m.norm());
        BigInteger[] square = {BigInteger.valueOf(n.a).mod(size), BigInteger.valueOf(n.b).mod(size)};
        BigInteger[] answer = {BigInteger.ONE.mod(size), BigInteger.ZERO};
        for (long left = k; left > 0; left >>= 1) {
            if ((left & 1) == 1) {
                answer = times(answer, square, size);
            }
            square = times(square, square, size);
        }
        return new Z(answer[0].longValue(), answer[1].longValue());
    }

    private static BigInteger[] times(BigInteger[] n, BigInteger[] m, BigInteger size) {
        BigInteger ww = n[1].multiply(m[1]);
        BigInteger a = n[0].multiply(m[0]).subtract(ww);
        BigInteger b = n[0].multiply(m[1]).add(n[1].multiply(m[0])).subtract(ww);
        return new BigInteger[] {a.mod(size), b.mod(size)};
    }

    static Z inverse(Z n, Z m) {
        for (Z r : residues(m)) {
            if (divides(m, r.times(n).minus(ONE))) {
                return r;
            }
        }
        return null;
    }

    static List<Z> roots(Z n, Z m) {
        List<Z> all = new ArrayList<>();
        for (Z r : residues(m)) {
            if (divides(m, r.times(r).times(r).minus(n))) {
                all.add(r);
            }
        }
        return all;
    }

    static List<Z> linear(Z n, Z e, Z m) {
        List<Z> all = new ArrayList<>();
        for (Z r : residues(m)) {
            if (divides(m, r.times(n).minus(e))) {
                all.add(r);
            }
        }
        return all;
    }

    static int primeClasses(Z m) {
        int many = 0;
        for (Z r : residues(m)) {
            if (primeTo(r, m)) {
                many++;
            }
        }
        return many;
    }

    static int cubes(Z m) {
        Set<Z> all = new HashSet<>();
        for (Z r : residues(m)) {
            if (primeTo(r, m)) {
                all.add(residue(r.times(r).times(r), m));
            }
        }
        return all.size();
    }

    static int spread(Z m, int many) {
        int classes = 0;
        for (Z r : residues(m)) {
            if (roots(r, m).size() == many) {
                classes++;
            }
        }
        return classes;
    }

    static int order(Z n, Z m) {
        int k = 1;
        while (!divides(m, power(n, k, m).minus(ONE))) {
            k++;
        }
        return k;
    }

    /** The greatest order and how many have it. */
    static int[] greatest(Z m) {
        Map<Integer, Integer> orders = new HashMap<>();
        int most = 0;
        for (Z r : residues(m)) {
            if (primeTo(r, m)) {
                int order = order(r, m);
                orders.merge(order, 1, Integer::sum);
                most = Math.max(most, order);
            }
        }
        return new int[] {most, orders.get(most)};
    }

    static Z least(Z n, Z m) {
        Z best = n;
        for (Z z : disk(m.norm())) {
            if (divides(m, z.minus(n))) {
                boolean like = z.norm() == best.norm();
                if (z.norm() < best.norm() || like && (z.a < best.a || z.a == best.a && z.b < best.b)) {
                    best = z;
                }
            }
        }
        return best;
    }

    static Z both(Z n, Z e, Z f, Z g) {
        for (Z r : residues(e.times(g))) {
            if (divides(e, r.minus(n)) && divides(g, r.minus(f))) {
                return r;
            }
        }
        return null;
    }

    static int steps(Z from, Z to) {
        Map<Z, Integer> far = new HashMap<>();
        ArrayDeque<Z> open = new ArrayDeque<>();
        far.put(from, 0);
        open.add(from);
        while (!far.containsKey(to)) {
            Z z = open.remove();
            for (Z u : UNITS) {
                if (far.putIfAbsent(z.plus(u), far.get(z) + 1) == null) {
                    open.add(z.plus(u));
                }
            }
        }
        return far.get(to);
    }

    static int signByPrime(Z n, Z p) {
        if (divides(p, n)) {
            return 3;
        }
        Z power = power(n, (p.norm() - 1) / 3, p);
        for (int s = 0; s < 3; s++) {
            if (divides(p, power.minus(UNITS.get(2 * s)))) {
                return s;
            }
        }
        throw new IllegalStateException("no sign of " + n + " by " + p);
    }

    static int sign(Z n, Z m) {
        int sum = 0;
        for (Z p : written(m)) {
            int s = signByPrime(n, p);
            if (s == 3) {
                return 3;
            }
            sum += s;
        }
        return sum % 3;
    }

    static boolean third(int p) {
        return p >= 7 && p <= 997 && p % 3 == 1 && BigInteger.valueOf(p).isProbablePrime(40);
    }

    static Z split(int p) {
        for (Z z : disk(p)) {
            if (z.norm() == p && z.primary() && z.b > 0) {
                return z;
            }
        }
        throw new IllegalStateException("no split of " + p);
    }

    static Z sum(int p) {
        Z sum = ZERO;
        Z by = split(p);
        for (int t = 2; t < p; t++) {
            int s = signByPrime(new Z(t, 0), by) + signByPrime(new Z(1 - t, 0), by);
            sum = sum.plus(UNITS.get(2 * (s % 3)));
        }
        return sum;
    }

    static int points(int p) {
        int points = 0;
        for (int x = 0; x < p; x++) {
            for (int y = 0; y < p; y++) {
                if (((long) x * x * x + (long) y * y * y - 1) % p == 0) {
                    points++;
                }
            }
        }
        return points;
    }

    static boolean cube(int n, int p) {
        for (int t = 1; t < p; t++) {
            if (((long) t * t * t - n) % p == 0) {
                return n % p != 0;
            }
        }
        return false;
    }

    static int[] form(int p) {
        for (int m = 1; 27 * m * m < 4 * p; m++) {
            for (int l = -100; l <= 100; l++) {
                if (l * l + 27 * m * m == 4 * p && (l - 1) % 3 == 0) {
                    return new int[] {l, m};
                }
            }
        }
        throw new IllegalStateException("no form of " + p);
    }
}
