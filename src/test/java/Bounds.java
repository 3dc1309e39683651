import java.lang.reflect.Method;
import java.lang.reflect.Modifier;
import java.util.Arrays;
import java.util.HashMap;
import java.util.Map;

/**
 * What the tests of boundary cases share. A sentence of the document is named ahead of the calls
 * that test it, so that a failure tells which promise is broken.
 */
final class Bounds {
    static final int NO = Integer.MIN_VALUE;
    static final int NONE = CubicSigns.NONE;
    private static final Map<String, Method> CALLS = new HashMap<>();

    static {
        for (Method m : CubicSigns.class.getDeclaredMethods()) {
            if (Modifier.isPublic(m.getModifiers())) {
                CALLS.put(m.getName(), m);
            }
        }
    }

    private final Check check;
    private String sentence = "";

    Bounds(String name) {
        check = new Check(name);
    }

    void promise(int number, String words) {
        sentence = "Promise " + number + ", '" + words + "': ";
    }

    void terms(String words) {
        sentence = "Terms, '" + words + "': ";
    }

    void end() {
        check.end();
    }

    /** A boolean counts 1 or 0. */
    static long answer(CubicSigns x, String call, int... arguments) {
        Method method = CALLS.get(call);
        Object[] values = new Object[arguments.length];
        for (int i = 0; i < values.length; i++) {
            values[i] = arguments[i];
        }
        try {
            Object answer = method.invoke(x, values);
            return answer instanceof Boolean yes ? (yes ? 1 : 0) : ((Number) answer).longValue();
        } catch (ReflectiveOperationException wrong) {
            throw new IllegalStateException(call + Arrays.toString(arguments), wrong);
        }
    }

    void due(long want, CubicSigns x, String call, int... arguments) {
        check.due(sentence + call + Arrays.toString(arguments), answer(x, call, arguments), want);
    }

    void same(String what, long got, long want) {
        check.due(sentence + what, got, want);
    }

    void holds(CubicSigns x, int d, int a, int b) {
        due(a, x, "told", d, 0);
        due(b, x, "told", d, 1);
    }

    void isEmpty(CubicSigns x, int d) {
        due(0, x, "take", d);
    }

    /** The argument at that place just below the least, just above the most, and far beyond both. */
    void outside(long want, int least, int most, int place, CubicSigns x, String call, int... arguments) {
        int[] values = {least - 1, most + 1, Integer.MIN_VALUE, Integer.MAX_VALUE};
        for (int value : values) {
            int[] changed = arguments.clone();
            changed[place] = value;
            due(want, x, call, changed);
        }
    }

    void noSuchDrawer(long want, int place, CubicSigns x, String call, int... arguments) {
        outside(want, 0, 7, place, x, call, arguments);
    }

    /** Drawers 0, 1, .. with a and b by turns. */
    static CubicSigns with(int... parts) {
        CubicSigns x = new CubicSigns();
        for (int i = 0; i + 1 < parts.length; i += 2) {
            if (!x.put(i / 2, parts[i], parts[i + 1])) {
                throw new IllegalStateException("no number: " + parts[i] + ", " + parts[i + 1]);
            }
        }
        return x;
    }

    /** As many feeds as the text needs; behind it come bytes that can't stand in one. */
    static void feed(CubicSigns x, String text) {
        for (int from = 0; from < text.length(); from += 20) {
            int[] words = new int[5];
            for (int i = 0; i < 20; i++) {
                int letter = from + i < text.length() ? text.charAt(from + i) : 'z';
                words[i / 4] = words[i / 4] << 8 | letter;
            }
            x.feed(words[0], words[1], words[2], words[3], words[4]);
        }
    }

    void reads(String text, int a, int b) {
        CubicSigns x = with(5, 5);
        feed(x, text);
        same("write '" + text + "'", x.write(0, text.length()), 0);
        same("a of '" + text + "'", x.told(0, 0), a);
        same("b of '" + text + "'", x.told(0, 1), b);
    }

    void faults(String text, int number, int place) {
        CubicSigns x = with(5, 6);
        feed(x, text);
        same("write '" + text + "'", x.write(0, text.length()), -1000 * number - place);
        holds(x, 0, 5, 6);
    }
}
