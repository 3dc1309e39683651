import java.util.HashSet;
import java.util.Random;
import java.util.Set;
import java.util.regex.Matcher;
import java.util.regex.Pattern;

/** Random texts for write(), read once more with a regular expression; and letter() back again. */
public final class TextsTest {
    private static final String BODY = "(?:[0-9]{1,4}(?: *w)?|w)";
    private static final Pattern TEXT = Pattern.compile(" *(?:[+-] *)?" + BODY + "(?: *[+-] *" + BODY + ")* *");
    private static final Pattern PART = Pattern.compile("([+-]?) *(?:([0-9]{1,4})( *w)?|(w))");
    private static final Check check = new Check("TextsTest");
    private static final Random random = new Random(47);

    public static void main(String[] args) {
        String[] pieces = {"+", "-", "w", " ", "  ", "0", "7", "12", "345", "9999", "12345", "a", "W", "+w", "-3", "+4w", " - "};
        for (int i = 0; i < 60000; i++) {
            StringBuilder text = new StringBuilder();
            int many = 1 + random.nextInt(9);
            for (int k = 0; k < many; k++) {
                // what can't stand at all comes seldom
                text.append(pieces[random.nextInt(random.nextInt(4) == 0 ? pieces.length : 10)]);
            }
            text.setLength(Math.min(text.length(), 40));
            readsAsDue(text.toString());
        }
        for (int i = 0; i < 5000; i++) {
            comesBack(random.nextInt(19999) - 9999, random.nextInt(19999) - 9999);
            comesBack(random.nextInt(5) - 2, random.nextInt(5) - 2);
        }
        check.end();
    }

    private static void readsAsDue(String text) {
        CubicSigns x = new CubicSigns();
        x.put(0, 1, 2);
        feed(x, text);
        int want = fault(text);
        check.due("write '" + text + "'", x.write(0, text.length()), want);
        int[] parts = want == 0 ? parts(text) : new int[] {1, 2};
        check.due("a of '" + text + "'", x.told(0, 0), parts[0]);
        check.due("b of '" + text + "'", x.told(0, 1), parts[1]);
        check.due("tape", x.count(1), 0);
    }

    private static void feed(CubicSigns x, String text) {
        for (int from = 0; from < text.length(); from += 20) {
            int[] words = new int[5];
            for (int i = 0; i < 20; i++) {
                int letter = from + i < text.length() ? text.charAt(from + i) : random.nextInt(256);
                words[i / 4] = words[i / 4] << 8 | letter;
            }
            x.feed(words[0], words[1], words[2], words[3], words[4]);
        }
    }

    /** Whether something could still follow so that a text stands there. */
    private static boolean canGoOn(String start) {
        Matcher matcher = TEXT.matcher(start);
        return matcher.matches() || matcher.hitEnd();
    }

    static int fault(String text) {
        int wrong = 0;
        while (wrong < text.length() && canGoOn(text.substring(0, wrong + 1))) {
            wrong++;
        }
        boolean stands = wrong == text.length() && TEXT.matcher(text).matches();
        boolean fifth = wrong < text.length() && text.substring(0, wrong + 1).matches("(?s).*[0-9]{5}");
        Set<Boolean> told = new HashSet<>();
        Matcher part = PART.matcher(text.substring(0, wrong));
        while (part.find()) {
            boolean within = fifth && part.end() == wrong;
            boolean again = !told.add(part.group(3) != null || part.group(4) != null);
            if (again && !within) {
                return -3000 - part.start();
            }
        }
        if (stands) {
            return 0;
        }
        return (fifth ? -2000 : -1000) - wrong;
    }

    static int[] parts(String text) {
        int[] parts = new int[2];
        Matcher part = PART.matcher(text);
        while (part.find()) {
            int value = part.group(2) == null ? 1 : Integer.parseInt(part.group(2));
            boolean omega = part.group(3) != null || part.group(4) != null;
            parts[omega ? 1 : 0] = part.group(1).equals("-") ? -value : value;
        }
        return parts;
    }

    private static void comesBack(int a, int b) {
        CubicSigns x = new CubicSigns();
        x.put(0, a, b);
        StringBuilder text = new StringBuilder();
        for (int k = 0; k < x.letter(0, CubicSigns.NONE); k++) {
            text.append((char) x.letter(0, k));
        }
        String want = letters(a, b);
        check.due("letters of " + want + ": " + text, text.toString().equals(want), true);
        feed(x, text.toString());
        check.due("write '" + text + "'", x.write(1, text.length()), 0);
        check.due("a", x.told(1, 0), a);
        check.due("b", x.told(1, 1), b);
    }

    /** What letter() has to tell of a + b w. */
    static String letters(int a, int b) {
        String first = a != 0 || b == 0 ? Integer.toString(a) : "";
        String second = b == 0 ? "" : (b > 0 && a != 0 ? "+" : "") + b + "w";
        return first + second.replaceFirst("^([+-]?)1w$", "$1w");
    }
}
