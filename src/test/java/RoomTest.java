import java.lang.management.ManagementFactory;
import java.lang.reflect.Array;
import java.lang.reflect.Field;
import java.lang.reflect.InvocationTargetException;
import java.lang.reflect.Method;
import java.lang.reflect.Modifier;
import java.util.ArrayDeque;
import java.util.Arrays;
import java.util.Comparator;
import java.util.Random;

/**
 * Any calls with any arguments: none throws, a refused one changes nothing, like runs answer alike,
 * a used object answers as a new one in the same state, and no call makes objects.
 */
public final class RoomTest {
    private static final int[] EDGES = {
        Integer.MIN_VALUE, -9999, -10000, -3, -2, -1, 0, 1, 2, 3, 7, 8, 12, 13, 19, 31, 39, 40, 41,
        100, 101, 500, 997, 1000, 2000, 2001, 9999, 10000, 1000000, 1000001, 1000000000, 1000000001, Integer.MAX_VALUE,
    };
    private static final Check check = new Check("RoomTest");

    public static void main(String[] args) throws Exception {
        Method[] calls = Arrays.stream(CubicSigns.class.getDeclaredMethods())
            .filter(m -> Modifier.isPublic(m.getModifiers()))
            .sorted(Comparator.comparing(Method::getName)).toArray(Method[]::new);
        check.due("calls of the face", calls.length, 46);
        for (int seed = 0; seed < 300; seed++) {
            anyRun(calls, seed);
        }
        for (int seed = 0; seed < 100; seed++) {
            usedAndNew(calls, seed);
        }
        makesNoObjects();
        newOnesAreSmall();
        check.end();
    }

    private static void anyRun(Method[] calls, int seed) throws Exception {
        Random random = new Random(seed);
        CubicSigns x = new CubicSigns();
        CubicSigns y = new CubicSigns();
        for (int i = 0; i < 512; i++) {
            Method call = i % 4 == 0 ? CubicSigns.class.getMethod("drawn", int.class, int.class, int.class) : calls[random.nextInt(calls.length)];
            Object[] values = new Object[call.getParameterCount()];
            for (int k = 0; k < values.length; k++) {
                values[k] = anyValue(random);
            }
            String text = call.getName() + Arrays.toString(values);
            try {
                long[] ahead = state(x);
                Object answer = call.invoke(x, values);
                check.due(text + " alike", answer.equals(call.invoke(y, values)), true);
                if (isRefused(answer) && !call.getName().equals("write")) {
                    check.due(text + " changes nothing", Arrays.equals(ahead, state(x)), true);
                }
            } catch (InvocationTargetException thrown) {
                check.due(text + " threw " + thrown.getCause(), false, true);
            }
        }
    }

    /** Nothing but the drawers, the tape and what is kept tells what a call answers. */
    private static void usedAndNew(Method[] calls, int seed) throws Exception {
        Random random = new Random(1000 + seed);
        CubicSigns used = new CubicSigns();
        ArrayDeque<int[]> fed = new ArrayDeque<>();
        for (int i = 0; i < 400; i++) {
            Method call = calls[random.nextInt(calls.length)];
            Object[] values = new Object[call.getParameterCount()];
            for (int k = 0; k < values.length; k++) {
                values[k] = call.getName().equals("feed") ? letters(random) : nearValue(random);
            }
            if (random.nextInt(3) == 0) {
                used.put(random.nextInt(8), random.nextInt(31) - 15, random.nextInt(31) - 15);
            }
            if (call.getName().matches("keep|undo") || call.getName().equals("count") && values[0].equals(2)) {
                continue;
            }
            CubicSigns fresh = likeOf(used, fed);
            Object answer = call.invoke(used, values);
            check.due(call.getName() + Arrays.toString(values) + " of a new one", answer.equals(call.invoke(fresh, values)), true);
            check.due(call.getName() + Arrays.toString(values) + " leaves the same", Arrays.equals(state(used), state(fresh)), true);
            if (call.getName().equals("feed") && !isRefused(answer)) {
                fed.add(Arrays.stream(values).mapToInt(v -> (Integer) v).toArray());
            }
            if (used.count(1) == 0) {
                fed.clear();
            }
        }
    }

    private static CubicSigns likeOf(CubicSigns used, ArrayDeque<int[]> fed) {
        CubicSigns fresh = new CubicSigns();
        for (int d = 0; d < 8; d++) {
            fresh.put(d, used.told(d, 0), used.told(d, 1));
        }
        for (int[] words : fed) {
            fresh.feed(words[0], words[1], words[2], words[3], words[4]);
        }
        return fresh;
    }

    private static int letters(Random random) {
        String likely = "0123456789ww+-+-  ";
        int four = 0;
        for (int i = 0; i < 4; i++) {
            four = four << 8 | likely.charAt(random.nextInt(likely.length()));
        }
        return four;
    }

    private static int nearValue(Random random) {
        int kind = random.nextInt(12);
        if (kind == 0) {
            return EDGES[random.nextInt(EDGES.length)];
        }
        return kind < 9 ? random.nextInt(8) : random.nextInt(6) - 2;
    }

    private static boolean isRefused(Object answer) {
        if (answer instanceof Boolean put) {
            return !put;
        }
        return ((Number) answer).longValue() < 0;
    }

    private static long[] state(CubicSigns x) {
        long[] state = new long[19];
        for (int d = 0; d < 8; d++) {
            state[2 * d] = x.told(d, 0);
            state[2 * d + 1] = x.told(d, 1);
        }
        for (int what = 0; what < 3; what++) {
            state[16 + what] = x.count(what);
        }
        return state;
    }

    private static int anyValue(Random random) {
        int kind = random.nextInt(10);
        if (kind == 0) {
            return EDGES[random.nextInt(EDGES.length)];
        }
        if (kind == 1) {
            return random.nextInt();
        }
        return kind < 8 ? random.nextInt(8) : random.nextInt(100) - 10;
    }

    /** The dearest calls one behind the other, once they are warm. */
    private static void makesNoObjects() {
        com.sun.management.ThreadMXBean threads = (com.sun.management.ThreadMXBean) ManagementFactory.getThreadMXBean();
        CubicSigns x = new CubicSigns();
        dearCalls(x);
        long id = Thread.currentThread().getId();
        long least = Long.MAX_VALUE;
        for (int i = 0; i < 5; i++) {
            long ahead = threads.getThreadAllocatedBytes(id);
            dearCalls(x);
            least = Math.min(least, threads.getThreadAllocatedBytes(id) - ahead);
        }
        check.due("bytes that the dearest calls make stay few", least < 1000, true);
    }

    private static void dearCalls(CubicSigns x) {
        x.put(0, 9998, -9997);
        x.put(1, 44, 1);
        x.put(2, 22, 1);
        x.put(3, 9999, 1);
        x.told(0, 5);
        x.work(0, 3, 4, 5);
        x.written(0, 0, 0);
        x.divisors(0, 1);
        x.signBy(1, 0, 0);
        x.power(0, 1000000000, 3, 0);
        x.inverse(0, 3, 0);
        x.classes(1, 2);
        x.root(0, 1, -1, 0);
        x.linear(0, 3, 1, -1, 0);
        x.spread(1, 1);
        x.order(3, 1);
        x.greatest(2, 1);
        x.least(0, 3, 0);
        x.both(0, 1, 3, 2, 0);
        x.parting(0, 3, -1, 5);
        x.sign(0, 3);
        x.turned(0, 1);
        x.supplement(0, 3);
        x.prime(997, 7);
        x.sum(997, 0);
        x.sum(997, 3);
        x.thirds(79);
        x.primeAt(200, 0);
        x.crowd(0, 100, 1);
        x.letter(0, 2);
        x.length(0);
        x.middle(0);
        x.nearest(0, 1);
        x.ring(1000000, 0);
        x.disk(1000000, 0);
        x.ringAt(999999, 5, 0);
        x.feed(0x31323334, 0x2B773132, 0, 0, 0);
        x.write(5, 6);
        x.keep();
        x.undo();
    }
    /** A room holds some 600,000 objects and 7.3 million fields and elements: a thousand new ones fit in with ease. */
    private static void newOnesAreSmall() throws Exception {
        int[] made = new int[2];
        addMade(new CubicSigns(), made);
        check.due("objects and arrays of a new one: " + made[0], made[0] > 10 && made[0] <= 100, true);
        check.due("fields and elements of a new one: " + made[1], made[1] > 1000 && made[1] <= 5000, true);
    }

    /** Adds the object, or array of numbers, and all that its fields hold. */
    private static void addMade(Object made, int[] counts) throws Exception {
        counts[0]++;
        if (made.getClass().isArray()) {
            counts[1] += Array.getLength(made);
            return;
        }
        for (Field field : made.getClass().getDeclaredFields()) {
            if (!Modifier.isStatic(field.getModifiers())) {
                counts[1]++;
                field.setAccessible(true);
                if (!field.getType().isPrimitive()) {
                    addMade(field.get(made), counts);
                }
            }
        }
    }
}
