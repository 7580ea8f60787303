import java.io.IOException;
import java.lang.reflect.Constructor;
import java.lang.reflect.Field;
import java.lang.reflect.Method;
import java.lang.reflect.Modifier;
import java.nio.file.Files;
import java.nio.file.Path;
import java.util.Arrays;
import java.util.Map;
import java.util.Set;
import java.util.TreeMap;
import java.util.TreeSet;
import java.util.regex.Matcher;
import java.util.regex.Pattern;
import java.util.stream.Collectors;

// The public face, the constants, and the rules of ../shared/LANGUAGE.md that can be read off the text.
public final class RulesTest {
    private static final String[] FACE = {
        "int zero(int, int)", "int put(int, int, long)", "long of(int, int)", "int fundamental(int, int, long)",
        "long inF(int, int)", "int told(int, int)", "int composition(int, int, int)", "int sum(int, int, int)",
        "int multiply(int, int, int)", "int antipode(int, int)", "long cut(int, int, int, int)",
        "long counts(int, int)", "int order(int)", "int below(int, int)", "int isBelow(int, int)",
        "int rowOf(int, int)", "int marks(int, int)", "int made(int)", "int laid(int)", "int share(int, int)",
        "int warm(int, int, int)", "long warmth(int)", "int store(int, int, int, int)", "int fetch(int, int, int)",
        "int holds(int, int)", "int row(int, int)", "int lay(int, int, int)", "long get(int, int)",
        "int copy(int, int, int, int, int)", "int film(int, int)", "int judge(int)", "int back()", "int feed(int)",
        "int wipe()", "int read(int)", "int why(int, int)", "int image()", "int restore()", "int count(int)"};

    private static final String[] FORBIDDEN = {
        "\\bimport (?!java\\.util\\.(ArrayList|Arrays);)", "^package\\b", "Exact\\(", "->", "::", "\\bFloat\\.",
        "\\bDouble\\.", "\\bSystem\\.(?!arraycopy)", "\\bMath\\.(?!min\\(|max\\()", "\\bInteger\\.(?!bitCount\\()",
        "\\bLong\\.(?!MIN_VALUE\\b)", "\\bfinally\\b", "\\bsynchronized\\b", "\\bassert\\b", "\\bcatch\\b",
        "\\bthrow\\b", "\\bthread", "\\bprotected\\b", "\\bstatic \\{", "\\bvar\\b", "\\bhashCode\\b", "\\btoString\\b"};

    private static int wrong = 0;

    private static void due(String what, Object got, Object want) {
        if (!got.equals(want)) {
            wrong++;
            System.out.println(what + ": " + got + ", due is " + want);
        }
    }

    private static String parameters(Class<?>[] types) {
        return Arrays.stream(types).map(Class::getSimpleName).collect(Collectors.joining(", ", "(", ")"));
    }

    private static void face() {
        Set<String> open = new TreeSet<>();
        Set<String> names = new TreeSet<>();
        for (Method method : QuasiSums.class.getDeclaredMethods()) {
            if (!Modifier.isPrivate(method.getModifiers())) {
                open.add(method.getReturnType() + " " + method.getName() + parameters(method.getParameterTypes()));
                names.add(method.getName());
                due(method.getName() + " is public alone", method.getModifiers(), Modifier.PUBLIC);
            }
        }
        due("the methods", open, new TreeSet<>(Arrays.asList(FACE)));
        due("final", Modifier.isFinal(QuasiSums.class.getModifiers()), true);
        for (Constructor<?> made : QuasiSums.class.getDeclaredConstructors()) {
            due("the constructor", parameters(made.getParameterTypes()), "()");
        }
        for (Method method : QuasiSums.class.getDeclaredMethods()) {
            boolean hidden = Modifier.isPrivate(method.getModifiers());
            due("private with a public name: " + method.getName(), hidden && names.contains(method.getName()), false);
        }
        for (Class<?> inside : QuasiSums.class.getDeclaredClasses()) {
            due(inside + " is static", Modifier.isStatic(inside.getModifiers()), true);
            due(inside + " is not open", Modifier.isPublic(inside.getModifiers()), false);
            for (Method method : inside.getDeclaredMethods()) {
                due("a public name inside: " + method.getName(), names.contains(method.getName()), false);
            }
        }
        due("classes inside", QuasiSums.class.getDeclaredClasses().length <= 12, true);
        sizes(QuasiSums.class);
        for (Class<?> inside : QuasiSums.class.getDeclaredClasses()) {
            sizes(inside);
        }
    }

    private static void sizes(Class<?> one) {
        for (Method method : one.getDeclaredMethods()) {
            due(one + " " + method.getName() + " has seven parameters at most", method.getParameterCount() <= 7, true);
        }
        long fields = Arrays.stream(one.getDeclaredFields()).filter(f -> !Modifier.isStatic(f.getModifiers())).count();
        due(one + " has twenty fields at most", fields <= 20, true);
    }

    private static void constants() throws IllegalAccessException {
        Map<String, Long> found = new TreeMap<>();
        for (Field field : QuasiSums.class.getDeclaredFields()) {
            int is = field.getModifiers();
            if (!Modifier.isPrivate(is)) {
                due(field.getName(), is, Modifier.PUBLIC | Modifier.STATIC | Modifier.FINAL);
                found.put(field.getType() + " " + field.getName(), field.getLong(null));
            }
            due(field.getName() + " static and not final", Modifier.isStatic(is) && !Modifier.isFinal(is), false);
        }
        due("the constants", found, new TreeMap<>(Map.of("int BAD", -1L, "int NOT", -2L, "int FULL", -3L,
            "int STATE", -5L, "int OVER", -9L, "long VOID", Long.MIN_VALUE)));
    }

    private static void text() throws IOException {
        String text = Files.readString(Path.of("src/main/java/QuasiSums.java"));
        String code = text.replaceAll("(?s)/\\*.*?\\*/", "").replaceAll("//[^\n]*", "");
        due("signs 1 to 127 alone", text.chars().allMatch(sign -> sign >= 1 && sign <= 127), true);
        for (String pattern : FORBIDDEN) {
            Matcher matcher = Pattern.compile(pattern, Pattern.MULTILINE).matcher(code);
            due(pattern, matcher.find() ? "found: " + matcher.group() : "none", "none");
        }
        int begun = 0;
        String[] lines = text.split("\n");
        for (int i = 0; i < lines.length; i++) {
            if (lines[i].matches("( {4}| {8})\\S.*\\(.*\\) \\{")) {
                begun = i;
            }
            if (lines[i].matches("( {4}| {8})\\}")) {
                due("a method at line " + begun + " is short", i - begun <= 60, true);
            }
        }
    }

    public static void main(String[] args) throws IOException, IllegalAccessException {
        face();
        constants();
        text();
        System.out.println(wrong == 0 ? "all rules are kept" : wrong + " rules are not kept");
        if (wrong != 0) {
            System.exit(1);
        }
    }
}
