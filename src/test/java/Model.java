import java.util.ArrayDeque;
import java.util.ArrayList;
import java.util.Arrays;
import java.util.Comparator;
import java.util.HashMap;
import java.util.List;
import java.util.Map;
import java.util.TreeMap;

/**
 * Every call of the face once more, on drawers, a tape and kept states of its own, in the order in
 * which the document names its reasons. It shares no code with the class; what is told of a term
 * comes from Oracle, or from here where brute force would take too long for great numbers.
 */
final class Model {
    private static final long NONE = -1;
    private static final long NO = Integer.MIN_VALUE;
    private static final long ANY_NORM = Long.MAX_VALUE;
    private static final Oracle.Z ZERO = Oracle.ZERO;
    private static final Oracle.Z ONE = Oracle.ONE;
    private static final Comparator<Oracle.Z> BY_NORM = Comparator.comparingLong(Oracle.Z::norm).thenComparingLong(Oracle.Z::b);
    private static final List<Oracle.Z> SMALL_PRIMES = smallPrimes();
    private static final List<Integer> THIRDS = thirdPrimes();
    private static final Map<Oracle.Z, Map<Oracle.Z, List<Oracle.Z>>> ROOTS = new HashMap<>();
    private static final Map<Integer, long[]> SUMS = new HashMap<>();

    private Oracle.Z[] drawers = new Oracle.Z[8];
    private final StringBuilder tape = new StringBuilder();
    private final ArrayDeque<Oracle.Z[]> kept = new ArrayDeque<>();

    // ---- terms

    private static List<Oracle.Z> smallPrimes() {
        List<Oracle.Z> all = new ArrayList<>();
        for (Oracle.Z z : Oracle.disk(2000)) {
            if (z.primary() && wholePrimes(z.norm()).size() <= 2 && isPrimeNumber(z)) {
                all.add(z);
            }
        }
        all.sort(BY_NORM);
        return all;
    }

    private static List<Integer> thirdPrimes() {
        List<Integer> all = new ArrayList<>();
        for (int p = 7; p <= 997; p++) {
            if (Oracle.third(p)) {
                all.add(p);
            }
        }
        return all;
    }

    /** The whole primes of n, each so often. */
    private static List<Long> wholePrimes(long n) {
        List<Long> all = new ArrayList<>();
        long left = n;
        for (long q = 2; q * q <= left; q++) {
            while (left % q == 0) {
                all.add(q);
                left /= q;
            }
        }
        if (left > 1) {
            all.add(left);
        }
        return all;
    }

    private static Oracle.Z rest(Oracle.Z n, Oracle.Z m) {
        return n.minus(Oracle.quotient(n, m).times(m));
    }

    private static Oracle.Z gcd(Oracle.Z n, Oracle.Z m) {
        Oracle.Z first = n;
        Oracle.Z second = m;
        while (!second.equals(ZERO)) {
            Oracle.Z next = rest(first, second);
            first = second;
            second = next;
        }
        return Oracle.own(first);
    }

    private static boolean primeTo(Oracle.Z n, Oracle.Z m) {
        return gcd(n, m).norm() == 1;
    }

    /** Each whole prime in the norm of n has primes in common with n. */
    private static List<Oracle.Z> written(Oracle.Z n) {
        List<Oracle.Z> all = new ArrayList<>();
        for (long p : wholePrimes(n.norm()).stream().distinct().filter(q -> q != 3).toList()) {
            Oracle.Z whole = new Oracle.Z(p, 0);
            Oracle.Z common = gcd(whole, n);
            List<Oracle.Z> primes = new ArrayList<>(List.of(common));
            if (p % 3 == 1) {
                Oracle.Z one = common.norm() == p ? common : gcd(whole, halfOf(p));
                primes = List.of(one, one.turned());
            }
            for (Oracle.Z prime : primes) {
                for (Oracle.Z left = n; Oracle.divides(prime, left); left = Oracle.through(left, prime)) {
                    all.add(prime);
                }
            }
        }
        all.sort(BY_NORM);
        return all;
    }

    /** One that has a divisor of norm p in common with p: t - w, whose norm t t + t + 1 is divided by p. */
    private static Oracle.Z halfOf(long p) {
        long t = 2;
        while ((t * t + t + 1) % p != 0) {
            t++;
        }
        return new Oracle.Z(t, -1);
    }

    private static int unitOf(Oracle.Z n) {
        Oracle.Z product = ONE;
        for (Oracle.Z p : written(n)) {
            product = product.times(p);
        }
        for (int i = 0; i < Oracle.threes(n); i++) {
            product = product.times(Oracle.THREE);
        }
        return Oracle.unit(Oracle.through(n, product));
    }

    private static boolean isPrimeNumber(Oracle.Z n) {
        return !n.equals(ZERO) && written(n).size() + Oracle.threes(n) == 1;
    }

    private static long wholeGcd(long a, long b) {
        return b == 0 ? Math.abs(a) : wholeGcd(b, a % b);
    }

    /** Of m and m times w, parted by their b till one has none, the other leads down to y; then x is cut. */
    private static Oracle.Z residue(Oracle.Z n, Oracle.Z m) {
        long g = wholeGcd(m.a(), m.b());
        Oracle.Z first = m;
        Oracle.Z second = m.times(Oracle.W);
        while (second.b() != 0) {
            long q = first.b() / second.b();
            Oracle.Z next = new Oracle.Z(first.a() - q * second.a(), first.b() - q * second.b());
            first = second;
            second = next;
        }
        long times = Math.floorDiv(n.b(), g) * (first.b() < 0 ? -1 : 1);
        long size = m.norm() / g;
        long x = Math.floorMod(n.a() - times * Math.floorMod(first.a(), size), size);
        return new Oracle.Z(x, n.b() - times * first.b());
    }

    private static Oracle.Z power(Oracle.Z n, long k, Oracle.Z m) {
        return residue(Oracle.power(n, k, m), m);
    }

    /** The quotients, then what was last, s and t. */
    private static List<Oracle.Z> partingOf(Oracle.Z n, Oracle.Z m) {
        List<Oracle.Z> all = new ArrayList<>();
        Oracle.Z[] last = {n, ONE, ZERO};
        Oracle.Z[] next = {m, ZERO, ONE};
        while (!next[0].equals(ZERO)) {
            Oracle.Z q = Oracle.quotient(last[0], next[0]);
            all.add(q);
            Oracle.Z[] rest = new Oracle.Z[3];
            for (int i = 0; i < 3; i++) {
                rest[i] = last[i].minus(q.times(next[i]));
            }
            last = next;
            next = rest;
        }
        all.addAll(Arrays.asList(last));
        return all;
    }

    /** Null, if there is none. */
    private static Oracle.Z inverse(Oracle.Z n, Oracle.Z m) {
        List<Oracle.Z> parting = partingOf(n, m);
        Oracle.Z last = parting.get(parting.size() - 3);
        Oracle.Z s = parting.get(parting.size() - 2);
        return last.norm() == 1 ? residue(s.times(last.turned()), m) : null;
    }

    /** Third powers by m, each with its roots. */
    private static Map<Oracle.Z, List<Oracle.Z>> rootsBy(Oracle.Z m) {
        return ROOTS.computeIfAbsent(m, by -> {
            Map<Oracle.Z, List<Oracle.Z>> all = new HashMap<>();
            for (Oracle.Z r : Oracle.residues(by)) {
                all.computeIfAbsent(residue(r.times(r).times(r), by), c -> new ArrayList<>()).add(r);
            }
            return all;
        });
    }

    private static int orderOf(Oracle.Z n, Oracle.Z m) {
        Oracle.Z one = residue(ONE, m);
        Oracle.Z power = residue(n, m);
        int k = 1;
        while (!power.equals(one)) {
            power = residue(power.times(n), m);
            k++;
        }
        return k;
    }

    private static boolean bearsNoSigns(Oracle.Z m) {
        return m.norm() <= 1 || (m.a() + m.b()) % 3 == 0;
    }

    private static int signOf(Oracle.Z n, Oracle.Z m) {
        int sum = 0;
        for (Oracle.Z p : written(m)) {
            int sign = Oracle.signByPrime(n, p);
            if (sign == 3) {
                return 3;
            }
            sum += sign;
        }
        return sum % 3;
    }

    private static List<Oracle.Z> ringOf(int n) {
        List<Oracle.Z> all = new ArrayList<>();
        for (long b = -1200; b <= 1200; b++) {
            long square = 4L * n - 3 * b * b;
            long s = Math.round(Math.sqrt(Math.max(square, 0)));
            if (s * s == square) {
                all.add(new Oracle.Z((b - s) / 2, b));
                if (s > 0) {
                    all.add(new Oracle.Z((b + s) / 2, b));
                }
            }
        }
        return all;
    }

    // ---- what many calls share

    private static boolean among(long value, long least, long most) {
        return value >= least && value <= most;
    }

    private static boolean named(int... ds) {
        return Arrays.stream(ds).allMatch(d -> among(d, 0, 7));
    }

    private boolean isFull(int... ds) {
        return named(ds) && Arrays.stream(ds).allMatch(d -> drawers[d] != null);
    }

    private static boolean fits(Oracle.Z z) {
        return among(z.a(), -9999, 9999) && among(z.b(), -9999, 9999);
    }

    private long store(int d, Oracle.Z z) {
        if (!fits(z)) {
            return -4;
        }
        drawers[d] = z;
        return z.norm();
    }

    private static long part(Oracle.Z z, int what) {
        return what == 0 ? z.a() : what == 1 ? z.b() : z.norm();
    }

    private static long bit(boolean yes) {
        return yes ? 1 : 0;
    }

    /** Of a list that is asked for its size (k NONE) or for a part of one. */
    private static long listed(List<Oracle.Z> all, int k, int what) {
        if (k == NONE) {
            return all.size();
        }
        return k < all.size() ? part(all.get(k), what) : -4;
    }

    /** Why a call by e's classes is refused, else 0; limit is the greatest norm that is allowed. */
    private long refused(boolean known, long limit, int by, int... ds) {
        if (!known || !named(ds) || !named(by)) {
            return NONE;
        }
        if (!isFull(ds) || !isFull(by)) {
            return -2;
        }
        return among(drawers[by].norm(), 1, limit) ? 0 : -3;
    }

    // ---- told and put

    long feed(int a, int b, int c, int d, int e) {
        if (tape.length() > 60) {
            return NONE;
        }
        for (int word : new int[] {a, b, c, d, e}) {
            for (int shift = 24; shift >= 0; shift -= 8) {
                tape.append((char) (word >>> shift & 255));
            }
        }
        return tape.length();
    }

    long write(int d, int n) {
        if (!named(d) || !among(n, 1, 40) || n > tape.length()) {
            return NONE;
        }
        String text = tape.substring(0, n);
        tape.setLength(0);
        int fault = TextsTest.fault(text);
        if (fault == 0) {
            int[] parts = TextsTest.parts(text);
            drawers[d] = new Oracle.Z(parts[0], parts[1]);
        }
        return fault;
    }

    long put(int d, int a, int b) {
        Oracle.Z z = new Oracle.Z(a, b);
        return named(d) && fits(z) ? bit(store(d, z) >= 0) : 0;
    }

    long take(int d) {
        if (!named(d)) {
            return NONE;
        }
        long was = bit(isFull(d));
        drawers[d] = null;
        return was;
    }

    long told(int d, int what) {
        if (!isFull(d) || !among(what, 0, 7)) {
            return NO;
        }
        Oracle.Z n = drawers[d];
        return switch (what) {
            case 3 -> bit(Oracle.divides(Oracle.THREE, n));
            case 4 -> bit(n.primary());
            case 5 -> bit(isPrimeNumber(n));
            case 6 -> Oracle.unit(n);
            case 7 -> n.equals(ZERO) ? -1 : Oracle.threes(n);
            default -> part(n, what);
        };
    }

    // ---- reckoned

    long work(int d, int e, int f, int how) {
        if (!named(d, e, f) || !among(how, 0, 5)) {
            return NONE;
        }
        if (!isFull(d, e)) {
            return -2;
        }
        Oracle.Z n = drawers[d];
        Oracle.Z m = drawers[e];
        boolean byNought = m.equals(ZERO) && (how == 3 || how == 4);
        if (byNought || how == 5 && n.equals(ZERO) && m.equals(ZERO)) {
            return -3;
        }
        return store(f, switch (how) {
            case 0 -> n.plus(m);
            case 1 -> n.minus(m);
            case 2 -> n.times(m);
            case 3 -> Oracle.quotient(n, m);
            case 4 -> rest(n, m);
            default -> gcd(n, m);
        });
    }

    long change(int d, int how) {
        if (!named(d) || !among(how, 0, 7)) {
            return NONE;
        }
        if (!isFull(d)) {
            return -2;
        }
        Oracle.Z n = drawers[d];
        return store(d, how == 0 ? n.turned() : how == 1 ? Oracle.own(n) : n.times(Oracle.UNITS.get(how - 2)));
    }

    long are(int d, int e, int what) {
        if (!named(d, e) || !among(what, 0, 2)) {
            return NONE;
        }
        if (!isFull(d, e)) {
            return -2;
        }
        Oracle.Z n = drawers[d];
        Oracle.Z m = drawers[e];
        return bit(what == 0 ? Oracle.alike(n, m) : what == 1 ? primeTo(n, m) : Oracle.divides(n, m));
    }

    long written(int d, int k, int what) {
        if (!isFull(d) || drawers[d].equals(ZERO) || k < NONE || !among(what, 0, 2)) {
            return NO;
        }
        Oracle.Z n = drawers[d];
        List<Oracle.Z> primes = written(n);
        if (k == NONE) {
            return what == 0 ? primes.size() : what == 1 ? Oracle.threes(n) : unitOf(n);
        }
        return k < primes.size() ? part(primes.get(k), what) : NO;
    }

    long divisors(int d, int what) {
        if (!isFull(d) || drawers[d].equals(ZERO) || !among(what, 0, 3)) {
            return Long.MIN_VALUE;
        }
        Map<Oracle.Z, Integer> often = new TreeMap<>(BY_NORM);
        written(drawers[d]).forEach(p -> often.merge(p, 1, Integer::sum));
        if (Oracle.threes(drawers[d]) > 0) {
            often.put(Oracle.THREE, Oracle.threes(drawers[d]));
        }
        long answer = 1;
        for (Map.Entry<Oracle.Z, Integer> one : often.entrySet()) {
            long[] powers = new long[one.getValue() + 1];
            powers[0] = 1;
            for (int i = 1; i < powers.length; i++) {
                powers[i] = powers[i - 1] * one.getKey().norm();
            }
            answer *= switch (what) {
                case 0 -> powers.length;
                case 1 -> Arrays.stream(powers).sum();
                case 2 -> powers[powers.length - 1] - powers[powers.length - 2];
                default -> powers.length > 2 ? 0 : -1;
            };
        }
        return answer;
    }

    long signBy(int d, int e, int k) {
        long refused = refused(k >= 0, ANY_NORM, e, d);
        if (refused != 0 || bearsNoSigns(drawers[e])) {
            return refused != 0 ? refused : -3;
        }
        List<Oracle.Z> primes = written(drawers[e]);
        return k < primes.size() ? Oracle.signByPrime(drawers[d], primes.get(k)) : -4;
    }

    // ---- classes

    long residue(int d, int e, int what) {
        long refused = refused(among(what, 0, 1), ANY_NORM, e, d);
        return refused != 0 ? refused : part(residue(drawers[d], drawers[e]), what);
    }

    long power(int d, int k, int e, int what) {
        long refused = refused(among(what, 0, 1) && among(k, 0, 1000000000), ANY_NORM, e, d);
        return refused != 0 ? refused : part(power(drawers[d], k, drawers[e]), what);
    }

    long inverse(int d, int e, int what) {
        long refused = refused(among(what, 0, 1), ANY_NORM, e, d);
        if (refused != 0) {
            return refused;
        }
        Oracle.Z inverse = inverse(drawers[d], drawers[e]);
        return inverse == null ? -4 : part(inverse, what);
    }

    long classes(int d, int what) {
        long refused = refused(among(what, 0, 2), what == 0 ? ANY_NORM : 2000, d);
        if (refused != 0) {
            return refused;
        }
        Oracle.Z m = drawers[d];
        if (what == 0) {
            return m.norm();
        }
        return (what == 1 ? Oracle.residues(m) : rootsBy(m).keySet()).stream().filter(r -> primeTo(r, m)).count();
    }

    long root(int d, int e, int k, int what) {
        long refused = refused(k == NONE || k > NONE && among(what, 0, 1), 2000, e, d);
        if (refused != 0) {
            return refused;
        }
        Oracle.Z m = drawers[e];
        return listed(rootsBy(m).getOrDefault(residue(drawers[d], m), List.of()), k, what);
    }

    long linear(int d, int e, int f, int k, int what) {
        long refused = refused(k == NONE || k > NONE && among(what, 0, 1), 2000, f, d, e);
        return refused != 0 ? refused : listed(Oracle.linear(drawers[d], drawers[e], drawers[f]), k, what);
    }

    long spread(int d, int many) {
        long refused = refused(among(many, 0, 2000), 2000, d);
        if (refused != 0) {
            return refused;
        }
        Oracle.Z m = drawers[d];
        return Oracle.residues(m).stream().filter(r -> rootsBy(m).getOrDefault(r, List.of()).size() == many).count();
    }

    long order(int d, int e) {
        long refused = refused(true, 2000, e, d);
        if (refused != 0) {
            return refused;
        }
        return primeTo(drawers[d], drawers[e]) ? orderOf(drawers[d], drawers[e]) : -4;
    }

    long greatest(int d, int what) {
        long refused = refused(among(what, 0, 1), 500, d);
        if (refused != 0) {
            return refused;
        }
        Oracle.Z m = drawers[d];
        int[] orders = Oracle.residues(m).stream().filter(r -> primeTo(r, m)).mapToInt(r -> orderOf(r, m)).toArray();
        int most = Arrays.stream(orders).max().getAsInt();
        return what == 0 ? most : Arrays.stream(orders).filter(order -> order == most).count();
    }

    long least(int d, int e, int what) {
        long refused = refused(among(what, 0, 1), ANY_NORM, e, d);
        if (refused != 0) {
            return refused == NONE ? NONE : NO;
        }
        Oracle.Z m = drawers[e];
        Oracle.Z rest = rest(drawers[d], m);
        return part(Oracle.disk(7).stream().map(step -> rest.plus(step.times(m)))
            .min(Comparator.comparingLong(Oracle.Z::norm).thenComparingLong(Oracle.Z::a).thenComparingLong(Oracle.Z::b)).get(), what);
    }

    long both(int d, int e, int f, int g, int what) {
        long refused = refused(among(what, 0, 1), ANY_NORM, e, d, f, g);
        if (refused != 0) {
            return refused;
        }
        Oracle.Z first = drawers[e];
        Oracle.Z second = drawers[g];
        if (second.equals(ZERO) || !primeTo(first, second)) {
            return -3;
        }
        Oracle.Z by = first.times(second);
        if (!fits(by)) {
            return -4;
        }
        Oracle.Z more = residue(drawers[f].minus(drawers[d]), second).times(inverse(first, second));
        return part(residue(drawers[d].plus(first.times(residue(more, second))), by), what);
    }

    long parting(int d, int e, int k, int what) {
        if (!isFull(d, e) || k < NONE || !among(what, 0, k == NONE ? 5 : 1)) {
            return NO;
        }
        List<Oracle.Z> parting = partingOf(drawers[d], drawers[e]);
        int many = parting.size() - 3;
        if (k == NONE) {
            return part(parting.get(many + what / 2), what % 2);
        }
        return k < many ? part(parting.get(k), what) : NO;
    }

    long partings(int d, int e) {
        if (!isFull(d, e)) {
            return named(d, e) ? -2 : NONE;
        }
        return partingOf(drawers[d], drawers[e]).size() - 3;
    }

    long steps(int d, int e) {
        if (!isFull(d, e)) {
            return named(d, e) ? -2 : NONE;
        }
        Oracle.Z way = drawers[e].minus(drawers[d]);
        long a = Math.abs(way.a());
        long b = Math.abs(way.b());
        // 1 + w goes along both at once, where both lead the same way
        return way.a() > 0 == way.b() > 0 ? Math.max(a, b) : a + b;
    }

    long direct(int d, int e, int what) {
        long refused = refused(among(what, 0, 1), ANY_NORM, e, d);
        if (refused != 0) {
            return refused;
        }
        Oracle.Z m = drawers[e];
        return bearsNoSigns(m) || !isPrimeNumber(m) ? -3 : part(power(drawers[d], (m.norm() - 1) / 3, m), what);
    }

    // ---- the sign

    long sign(int d, int e) {
        long refused = refused(true, ANY_NORM, e, d);
        if (refused != 0) {
            return refused;
        }
        return bearsNoSigns(drawers[e]) ? -3 : signOf(drawers[d], drawers[e]);
    }

    long turned(int d, int e) {
        long refused = refused(true, ANY_NORM, e, d);
        if (refused != 0) {
            return refused;
        }
        Oracle.Z n = drawers[d];
        Oracle.Z m = drawers[e];
        boolean so = n.primary() && m.primary() && n.norm() > 1 && m.norm() > 1 && primeTo(n, m);
        return so ? 3 * signOf(n, m) + signOf(m, n) : -3;
    }

    long supplement(int d, int which) {
        long refused = refused(among(which, 0, 3), ANY_NORM, d);
        if (refused != 0) {
            return refused;
        }
        List<Oracle.Z> all = List.of(Oracle.W, Oracle.THREE, new Oracle.Z(3, 0), new Oracle.Z(2, 0));
        return bearsNoSigns(drawers[d]) ? -3 : signOf(all.get(which), drawers[d]);
    }

    // ---- whole primes

    long prime(int p, int what) {
        if (!Oracle.third(p) || !among(what, 0, 7)) {
            return NO;
        }
        if (what < 2) {
            return part(Oracle.split(p), what);
        }
        if (what < 4) {
            return Oracle.form(p)[what - 2];
        }
        if (what < 6) {
            return bit(Oracle.cube(what - 2, p));
        }
        int n = 2;
        while (Oracle.cube(n, p) != (what == 6)) {
            n++;
        }
        return n;
    }

    long sum(int p, int what) {
        if (!Oracle.third(p) || !among(what, 0, 3)) {
            return NO;
        }
        return SUMS.computeIfAbsent(p, q -> {
            Oracle.Z sum = Oracle.sum(q);
            return new long[] {sum.a(), sum.b(), sum.norm(), Oracle.points(q)};
        })[what];
    }

    long split(int p, int d) {
        if (!Oracle.third(p) || !named(d)) {
            return NONE;
        }
        drawers[d] = Oracle.split(p);
        return drawers[d].b();
    }

    long thirds(int k) {
        if (k < NONE) {
            return -3;
        }
        return k == NONE ? THIRDS.size() : k < THIRDS.size() ? THIRDS.get(k) : -2;
    }

    long primeAt(int k, int what) {
        if (k == NONE) {
            return SMALL_PRIMES.size();
        }
        boolean known = among(k, 0, SMALL_PRIMES.size() - 1) && among(what, 0, 2);
        return known ? part(SMALL_PRIMES.get(k), what) : NO;
    }

    long crowd(int d, int many, int what) {
        if (!named(d) || !among(many, 1, 100) || !among(what, 0, 3)) {
            return NONE;
        }
        if (!isFull(d)) {
            return -2;
        }
        return SMALL_PRIMES.subList(0, many).stream().filter(p -> Oracle.signByPrime(drawers[d], p) == what).count();
    }

    long letter(int d, int k) {
        if (!named(d) || k < NONE) {
            return NONE;
        }
        if (!isFull(d)) {
            return -2;
        }
        String text = TextsTest.letters((int) drawers[d].a(), (int) drawers[d].b());
        return k == NONE ? text.length() : k < text.length() ? text.charAt(k) : -3;
    }

    // ---- floats

    long length(int d) {
        if (!isFull(d)) {
            return named(d) ? -2 : NONE;
        }
        float norm = (float) drawers[d].norm();
        float x = norm * 0.5f;
        for (int i = 0; i < 6 && norm != 0f; i++) {
            x = (x + norm / x) * 0.5f;
        }
        return (int) (x * 1000f);
    }

    long middle(int what) {
        List<Oracle.Z> all = Arrays.stream(drawers).filter(z -> z != null).toList();
        if (all.isEmpty() || !among(what, 0, 1)) {
            return NO;
        }
        float sum = 0f;
        for (Oracle.Z z : all) {
            sum += (float) part(z, what);
        }
        return (int) (sum / all.size() * 100f);
    }

    long nearest(int d, int what) {
        if (!named(d) || !among(what, 0, 1)) {
            return NONE;
        }
        if (!isFull(d)) {
            return -2;
        }
        TreeMap<Long, Integer> others = new TreeMap<>();
        for (int e = 0; e < 8; e++) {
            if (e != d && isFull(e)) {
                others.putIfAbsent(drawers[e].minus(drawers[d]).norm(), e);
            }
        }
        if (others.isEmpty()) {
            return -3;
        }
        return what == 0 ? others.firstEntry().getValue() : others.firstKey();
    }

    // ---- all

    long ring(int n, int what) {
        if (!among(n, 0, 1000000) || !among(what, 0, 2)) {
            return NONE;
        }
        return ringOf(n).stream().filter(z -> what == 0 || (what == 1 ? z.a() > 0 && z.b() >= 0 : z.primary())).count();
    }

    long disk(int n, int what) {
        if (!among(n, 0, 1000000) || !among(what, 0, 1)) {
            return NONE;
        }
        long all = 0;
        long most = 0;
        for (long b = -1200; b <= 1200; b++) {
            // the parabola is lowest at a = b / 2: from there outward both ways
            long inRow = 0;
            for (long a = Math.floorDiv(b, 2); new Oracle.Z(a, b).norm() <= n; a--) {
                inRow++;
            }
            for (long a = Math.floorDiv(b, 2) + 1; new Oracle.Z(a, b).norm() <= n; a++) {
                inRow++;
            }
            all += inRow;
            most = Math.max(most, inRow);
        }
        return what == 0 ? all : most;
    }

    long ringAt(int n, int k, int what) {
        if (!among(n, 0, 1000000) || k < 0 || !among(what, 0, 1)) {
            return NO;
        }
        List<Oracle.Z> ring = ringOf(n);
        return k < ring.size() ? part(ring.get(k), what) : NO;
    }

    long drawn(int d, int seed, int far) {
        if (!named(d) || !among(far, 1, 1000)) {
            return NONE;
        }
        long first = (25173L * (seed & 0xFFFF) + 13849) % 65536;
        long second = (25173L * first + 13849) % 65536;
        drawers[d] = new Oracle.Z(first / 4 % (2 * far + 1) - far, second / 4 % (2 * far + 1) - far);
        return second;
    }

    long count(int what) {
        long bits = 0;
        for (int d = 0; d < 8; d++) {
            bits |= bit(isFull(d)) << d;
        }
        return what == 0 ? bits : what == 1 ? tape.length() : what == 2 ? kept.size() : NONE;
    }

    long keep() {
        if (kept.size() >= 12) {
            return NONE;
        }
        kept.push(drawers.clone());
        return kept.size();
    }

    long undo() {
        if (kept.isEmpty()) {
            return NONE;
        }
        drawers = kept.pop();
        return kept.size();
    }
}
