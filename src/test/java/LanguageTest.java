import java.lang.reflect.Constructor;
import java.lang.reflect.Field;
import java.lang.reflect.Method;
import java.lang.reflect.Modifier;
import java.nio.file.Files;
import java.nio.file.Path;
import java.util.Arrays;
import java.util.List;
import java.util.Map;
import java.util.TreeMap;
import java.util.TreeSet;
import java.util.regex.Matcher;
import java.util.regex.Pattern;

/** The document's face, and the rules of LANGUAGE.md that can be looked up in the source. */
public final class LanguageTest {
    private static final Check check = new Check("LanguageTest");
    private static final List<String> RULED_OUT = List.of(
        "throw", "try", "catch", "finally", "synchronized", "assert", "import", "package", "protected",
        "yield", "Object", "System.out", "Math.sqrt", "Math.random", "Exact\\(", "->", "::", "static \\{",
        "equals\\(", "hashCode", "toString", "double", "instanceof", "new Thread", "volatile", "transient", "native");
    private static final Map<String, String> FACE = new TreeMap<>();

    public static void main(String[] args) throws Exception {
        String source = Files.readString(Path.of("src/main/java/CubicSigns.java"));
        String code = source.replaceAll("(?s)/\\*.*?\\*/", "").replaceAll("//[^\n]*", "");
        face();
        members(code);
        for (String word : RULED_OUT) {
            String bounded = Character.isLetter(word.charAt(0)) && word.matches("[A-Za-z]+") ? "\\b" + word + "\\b" : word;
            check.due("ruled out: " + word, Pattern.compile(bounded).matcher(code).find(), false);
        }
        check.due("signs of the source are 1 to 127", source.chars().allMatch(c -> c < 128), true);
        methodLengths(code);
        check.end();
    }

    private static void face() throws Exception {
        check.due("final and public", CubicSigns.class.getModifiers() & 0xFFFF & (Modifier.FINAL | Modifier.PUBLIC), Modifier.FINAL | Modifier.PUBLIC);
        String doc = Files.readString(Path.of("../shared/DOC.md"));
        Matcher matcher = Pattern.compile("public (int|long|boolean) (\\w+)\\(([^)]*)\\);").matcher(doc);
        while (matcher.find()) {
            FACE.put(matcher.group(2), matcher.group(1) + " " + matcher.group(3).replaceAll("(int) \\w+", "$1"));
        }
        Map<String, String> got = new TreeMap<>();
        for (Method m : CubicSigns.class.getDeclaredMethods()) {
            if (!Modifier.isPrivate(m.getModifiers())) {
                check.due(m.getName() + " is public", Modifier.isPublic(m.getModifiers()) && !Modifier.isStatic(m.getModifiers()), true);
                StringBuilder text = new StringBuilder(m.getReturnType().getName()).append(' ');
                text.append(String.join(", ", Arrays.stream(m.getParameterTypes()).map(Class::getName).toList()));
                check.due(m.getName() + " once", got.put(m.getName(), text.toString()) == null, true);
            }
        }
        check.due("the document's methods: " + got, got.equals(FACE), true);
        check.due("46 of them", FACE.size(), 46);
        Constructor<?>[] constructors = CubicSigns.class.getDeclaredConstructors();
        check.due("one constructor", constructors.length == 1 && Modifier.isPublic(constructors[0].getModifiers()), true);
    }

    private static void members(String code) {
        for (Field f : CubicSigns.class.getDeclaredFields()) {
            boolean none = f.getName().equals("NONE");
            check.due(f.getName() + " is private", Modifier.isPrivate(f.getModifiers()), !none);
        }
        Class<?>[] inside = CubicSigns.class.getDeclaredClasses();
        check.due("at most twelve classes", inside.length + 1 <= 12, true);
        check.due("no others", new TreeSet<>(List.of(inside).stream().map(Class::getSimpleName).toList()).size(), inside.length);
        for (Class<?> c : inside) {
            check.due(c + " is static", Modifier.isStatic(c.getModifiers()), true);
            for (Method m : c.getDeclaredMethods()) {
                check.due(c + "." + m.getName() + " has a name of its own", FACE.containsKey(m.getName()), false);
            }
            fields(c);
        }
        for (Method m : CubicSigns.class.getDeclaredMethods()) {
            if (Modifier.isPrivate(m.getModifiers())) {
                check.due("private " + m.getName() + " has a name of its own", FACE.containsKey(m.getName()), false);
            }
            check.due(m.getName() + " has seven parameters at most", m.getParameterCount() <= 7, true);
        }
        fields(CubicSigns.class);
    }

    private static void fields(Class<?> c) {
        long own = Arrays.stream(c.getDeclaredFields()).filter(f -> !Modifier.isStatic(f.getModifiers())).count();
        check.due(c + " has twenty fields at most", own <= 20, true);
        for (Field f : c.getDeclaredFields()) {
            if (Modifier.isStatic(f.getModifiers())) {
                check.due(c + "." + f.getName() + " is final", Modifier.isFinal(f.getModifiers()), true);
            }
        }
    }

    /** A method begins with a line that ends in ") {" four or eight blanks deep, and ends with a brace as deep. */
    private static void methodLengths(String code) {
        String[] lines = code.split("\n");
        for (int i = 0; i < lines.length; i++) {
            Matcher head = Pattern.compile("( {4}| {8})[a-z].*\\) \\{").matcher(lines[i]);
            if (head.matches()) {
                int end = i;
                while (end < lines.length && !lines[end].equals(head.group(1) + "}")) {
                    end++;
                }
                check.due("short: " + lines[i].trim(), end - i <= 60, true);
            }
        }
    }
}
