import java.lang.reflect.Method;
import java.util.Arrays;
import java.util.HashMap;
import java.util.Map;
import java.util.Random;
import java.util.TreeMap;

/** Runs of 512 mixed calls on one object, most of them with arguments that are in order, against Model. */
public final class RunsTest {
    private static final int CALLS_OF_AN_OBJECT = 512;
    private static final int RUNS = 160;
    private static final Check check = new Check("RunsTest");
    /** What each call takes, a letter for each argument: see argument(). */
    private static final Map<String, String> CALLS = new TreeMap<>(Map.ofEntries(
        Map.entry("feed", "ttttt"), Map.entry("write", "dn"), Map.entry("put", "daa"), Map.entry("take", "d"),
        Map.entry("told", "d8"), Map.entry("work", "ddd6"), Map.entry("change", "d8"), Map.entry("are", "dd3"),
        Map.entry("written", "dk3"), Map.entry("divisors", "d4"), Map.entry("signBy", "ddk"),
        Map.entry("residue", "dd2"), Map.entry("power", "dPd2"), Map.entry("inverse", "dd2"), Map.entry("classes", "d3"),
        Map.entry("root", "ddk2"), Map.entry("linear", "dddk2"), Map.entry("spread", "dS"), Map.entry("order", "dd"),
        Map.entry("greatest", "d2"), Map.entry("least", "dd2"), Map.entry("both", "dddd2"), Map.entry("parting", "ddk6"),
        Map.entry("partings", "dd"), Map.entry("steps", "dd"), Map.entry("direct", "dd2"),
        Map.entry("sign", "dd"), Map.entry("turned", "dd"), Map.entry("supplement", "d4"),
        Map.entry("prime", "p8"), Map.entry("sum", "p4"), Map.entry("split", "pd"), Map.entry("thirds", "T"),
        Map.entry("primeAt", "Q3"), Map.entry("crowd", "dC4"), Map.entry("letter", "dL"),
        Map.entry("length", "d"), Map.entry("middle", "2"), Map.entry("nearest", "d2"),
        Map.entry("ring", "R3"), Map.entry("disk", "R2"), Map.entry("ringAt", "Rk2"), Map.entry("drawn", "dxF"),
        Map.entry("count", "3"), Map.entry("keep", ""), Map.entry("undo", "")));
    private static final Map<String, Method> METHODS = new HashMap<>();

    private final Random random;
    /** How great the numbers of this run are. */
    private final int far;
    private final CubicSigns x = new CubicSigns();
    private final Model model = new Model();

    private RunsTest(int seed) {
        random = new Random(seed);
        far = new int[] {6, 12, 44, 9999}[seed % 4];
    }

    public static void main(String[] args) throws Exception {
        for (Method method : Model.class.getDeclaredMethods()) {
            String letters = CALLS.get(method.getName());
            boolean isCall = letters != null && method.getReturnType() == long.class && method.getParameterCount() == letters.length();
            if (isCall) {
                METHODS.put(method.getName(), method);
            }
        }
        check.due("calls of the model", METHODS.size(), 46);
        check.due("calls of the test", CALLS.size(), 46);
        for (int seed = 0; seed < RUNS; seed++) {
            new RunsTest(seed).run("run " + seed);
        }
        check.end();
    }

    private void run(String name) throws Exception {
        String[] all = CALLS.keySet().toArray(String[]::new);
        for (int i = 0; i < CALLS_OF_AN_OBJECT; i++) {
            // drawers fill faster than they are taken from
            String call = random.nextInt(6) == 0 ? "put" : random.nextInt(12) == 0 ? "feed" : all[random.nextInt(all.length)];
            String letters = CALLS.get(call);
            int[] arguments = new int[letters.length()];
            Object[] values = new Object[letters.length()];
            for (int k = 0; k < values.length; k++) {
                arguments[k] = argument(letters.charAt(k));
            }
            if (call.equals("put") && random.nextInt(3) == 0) {
                makePrimary(arguments);
            }
            for (int k = 0; k < values.length; k++) {
                values[k] = arguments[k];
            }
            long want = (Long) METHODS.get(call).invoke(model, values);
            check.due(name + ", call " + i + ": " + call + Arrays.toString(values), Bounds.answer(x, call, arguments), want);
        }
    }

    /** So that there are pairs for turned(). */
    private static void makePrimary(int[] put) {
        put[1] -= Math.floorMod(put[1] - 2, 3);
        put[2] -= Math.floorMod(put[2], 3);
    }

    private int argument(char letter) {
        if (random.nextInt(80) == 0) {
            return new int[] {Integer.MIN_VALUE, Integer.MAX_VALUE, -2, -1, 8, 41, 10000, 1000001}[random.nextInt(8)];
        }
        return switch (letter) {
            case 'd' -> random.nextInt(8);
            case 'a' -> among(-far, far);
            case 't' -> text();
            case 'n' -> among(1, random.nextInt(4) == 0 ? 40 : 9);
            case 'k' -> random.nextInt(3) == 0 ? CubicSigns.NONE : random.nextInt(random.nextInt(3) == 0 ? 12 : 3);
            case 'P' -> random.nextBoolean() ? random.nextInt(12) : among(0, 1000000000);
            case 'S' -> new int[] {0, 1, 2, 3, 9, 27, 2000, random.nextInt(2001)}[random.nextInt(8)];
            case 'p' -> random.nextInt(8) == 0 ? among(0, 1000) : x.thirds(random.nextInt(80));
            case 'T' -> among(-2, 81);
            case 'Q' -> among(-2, 305);
            case 'C' -> among(1, 100);
            case 'L' -> among(-1, random.nextBoolean() ? 2 : 11);
            case 'R' -> random.nextBoolean() ? (int) new Oracle.Z(among(-9, 9), among(-9, 9)).norm() : among(0, 1000000);
            case 'x' -> random.nextInt();
            case 'F' -> among(1, Math.min(far, 1000));
            // what is asked for: one digit tells how many there are
            default -> random.nextInt(letter - '0');
        };
    }

    private int among(int least, int most) {
        return least + random.nextInt(most - least + 1);
    }

    /** Four bytes, which with others stand for a number now and then. */
    private int text() {
        String[] likely = {"12+w", "-3w ", "+ 4w", "   7", "99-9", "9w+1", "w-12", "0012", "3 4w", "-w+5", "1+2+", "5w6 ", "a+1w", " +  "};
        String four = likely[random.nextInt(random.nextInt(3) == 0 ? likely.length : 9)];
        int word = 0;
        for (int i = 0; i < 4; i++) {
            word = word << 8 | four.charAt(i);
        }
        return word;
    }
}
