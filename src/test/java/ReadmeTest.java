import java.io.IOException;
import java.lang.reflect.Method;
import java.lang.reflect.Modifier;
import java.nio.file.Files;
import java.nio.file.Path;
import java.util.ArrayList;
import java.util.Arrays;
import java.util.List;
import java.util.Set;
import java.util.TreeSet;
import java.util.regex.Matcher;
import java.util.regex.Pattern;

// README.md: each call of its example answers what stands behind it, and all of the face is among them.
public final class ReadmeTest extends Bench {
    private static final Pattern EXAMPLE = Pattern.compile("(?s)```java\n(.*?)```");
    private static final Pattern CALL = Pattern.compile("x\\.(\\w+)\\((.*)\\); +// (-?\\w+)(:.*)?");

    private static String example(String text) {
        Matcher found = EXAMPLE.matcher(text);
        return found.find() ? found.group(1) : "";
    }

    private static Method named(String name) throws NoSuchMethodException {
        for (Method method : QuasiSums.class.getDeclaredMethods()) {
            if (method.getName().equals(name) && Modifier.isPublic(method.getModifiers())) {
                return method;
            }
        }
        throw new NoSuchMethodException(name);
    }

    private static long number(String told) throws ReflectiveOperationException {
        if (told.matches("'.'")) {
            return told.charAt(1);
        }
        return told.matches("-?[0-9]+") ? Long.parseLong(told) : QuasiSums.class.getField(told).getLong(null);
    }

    private static Object[] arguments(Method method, String told) throws ReflectiveOperationException {
        List<Object> arguments = new ArrayList<>();
        for (String one : told.isEmpty() ? new String[0] : told.split(", ")) {
            boolean isInt = method.getParameterTypes()[arguments.size()] == int.class;
            if (isInt) {
                arguments.add((int) number(one));
            } else {
                arguments.add(number(one));
            }
        }
        return arguments.toArray();
    }

    private static void answers(String example, Set<String> called) throws ReflectiveOperationException {
        QuasiSums x = new QuasiSums();
        for (String line : example.split("\n")) {
            Matcher call = CALL.matcher(line);
            if (call.matches()) {
                Method method = named(call.group(1));
                Number got = (Number) method.invoke(x, arguments(method, call.group(2)));
                due("README: " + line, got.longValue(), number(call.group(3)));
                called.add(method.getName());
            } else if (line.startsWith("x.")) {
                isWrong("README: no answer is told behind " + line);
            }
        }
    }

    private static Set<String> face() {
        Set<String> names = new TreeSet<>();
        for (Method method : QuasiSums.class.getDeclaredMethods()) {
            if (Modifier.isPublic(method.getModifiers())) {
                names.add(method.getName());
            }
        }
        return names;
    }

    private static void testsAreNamed(String text) throws IOException {
        try (var files = Files.list(Path.of("src/test/java"))) {
            for (Path file : files.toList()) {
                String name = file.getFileName().toString().replace(".java", "");
                if (!text.contains("`" + name + "`")) {
                    isWrong("README does not name " + name);
                }
            }
        }
    }

    public static void main(String[] args) throws IOException, ReflectiveOperationException {
        String text = Files.readString(Path.of("README.md"));
        Set<String> called = new TreeSet<>();
        answers(example(text), called);
        if (!called.equals(face())) {
            isWrong("README calls " + called + ", the face is " + face());
        }
        testsAreNamed(text);
        finish();
    }
}
