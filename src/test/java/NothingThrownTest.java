import java.lang.reflect.Method;
import java.lang.reflect.Modifier;
import java.util.Arrays;
import java.util.Comparator;
import java.util.Random;

// No call throws, for any arguments in any state (the document names no exception; ../shared/LANGUAGE.md, rules 6 and 7).
public final class NothingThrownTest extends Bench {
    private static final int CALLS = 512, OBJECTS = 3000;
    private static final long[] EDGES = {
        LEAST, LEAST_INT, -101, -2, -1, 0, 1, 2, 3, 4, 5, 6, 7, 9, 10, 15, 16, 20, 21, 31, 32, 39, 40, 41, 79, 80, 81, 126,
        127, 719, 720, MOST_INT, MOST};

    private static Method[] face() {
        Method[] methods = Arrays.stream(QuasiSums.class.getDeclaredMethods())
            .filter(method -> Modifier.isPublic(method.getModifiers())).toArray(Method[]::new);
        Arrays.sort(methods, Comparator.comparing(Method::getName));
        return methods;
    }

    /** Mostly a small number, so that what is refused does not hide all else. */
    private static Object[] arguments(Method method, Random random) {
        Class<?>[] types = method.getParameterTypes();
        Object[] arguments = new Object[types.length];
        for (int i = 0; i < types.length; i++) {
            boolean small = random.nextInt(3) != 0;
            long edge = small ? random.nextInt(4) : EDGES[random.nextInt(EDGES.length)];
            if (types[i] == int.class) {
                arguments[i] = (int) edge;
            } else {
                arguments[i] = edge;
            }
        }
        return arguments;
    }

    private static void call(QuasiSums x, Method method, Object[] arguments) {
        try {
            method.invoke(x, arguments);
        } catch (ReflectiveOperationException e) {
            isWrong(method.getName() + Arrays.toString(arguments) + " threw " + e.getCause());
        }
    }

    public static void main(String[] args) {
        Method[] methods = face();
        for (int object = 0; object < OBJECTS; object++) {
            Random random = new Random(object);
            QuasiSums x = new QuasiSums();
            for (int n = 0; n < CALLS; n++) {
                Method method = methods[random.nextInt(methods.length)];
                call(x, method, arguments(method, random));
            }
        }
        finish();
    }
}
