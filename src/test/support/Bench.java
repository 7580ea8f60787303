import java.lang.reflect.Method;
import java.util.Arrays;
import java.util.Comparator;

/** What the tests share: bringing an object so far, and holding what it answers against what is due. */
public abstract class Bench {
    static final int BAD = -1, NOT = -2, FULL = -3, STATE = -5, OVER = -9;
    static final long VOID = Long.MIN_VALUE;
    static final int LEAST_INT = Integer.MIN_VALUE, MOST_INT = Integer.MAX_VALUE;
    static final long MOST = Long.MAX_VALUE, LEAST = Long.MIN_VALUE;

    /** Twenty terms, 79 bytes: of weight 0, together -18. */
    static final String TWENTY = "M()" + "-M()".repeat(19);

    private static String sentence = "";
    private static int sentences = 0;
    private static int wrong = 0;

    /** Ahead of its calls: the words of the document that a test holds the class to. */
    static void says(String words) {
        sentence = "'" + words + "': ";
        sentences++;
    }

    static void due(String call, long got, long want) {
        if (got != want) {
            isWrong(sentence + call + " answered " + got + ", due is " + want);
        }
    }

    static void isWrong(String what) {
        wrong++;
        System.out.println(what);
    }

    static void finish() {
        System.out.println(wrong == 0 ? "all answers are as due" : wrong + " answers are not as due");
        if (wrong != 0) {
            System.exit(1);
        }
    }

    /** Calls each function of a test class that takes and answers nothing: each is the test of one sentence. */
    static void testSentences(Class<?> test) {
        Method[] functions = test.getDeclaredMethods();
        Arrays.sort(functions, Comparator.comparing(Method::getName));
        for (Method function : functions) {
            if (function.getParameterCount() == 0 && function.getReturnType() == void.class) {
                testSentence(function);
            }
        }
        System.out.println(sentences + " sentences");
        finish();
    }

    private static void testSentence(Method function) {
        int before = sentences;
        try {
            function.setAccessible(true);
            function.invoke(null);
        } catch (ReflectiveOperationException e) {
            isWrong(sentence + function.getName() + " threw " + e.getCause());
        }
        if (sentences != before + 1) {
            isWrong(function.getName() + " tells " + (sentences - before) + " sentences, due is 1");
        }
    }

    /** A new object, its register r of weight n with these numbers, the others 0. */
    static QuasiSums with(int r, int n, long... numbers) {
        return with(new QuasiSums(), r, n, numbers);
    }

    static QuasiSums with(QuasiSums x, int r, int n, long... numbers) {
        x.zero(r, n);
        for (int c = 0; c < numbers.length; c++) {
            x.put(r, c, numbers[c]);
        }
        return x;
    }

    /** A new object, its order of p things, of each two of which the first is below the second. */
    static QuasiSums ordered(int p, int... twos) {
        QuasiSums x = new QuasiSums();
        x.order(p);
        for (int i = 0; i < twos.length; i += 2) {
            x.below(twos[i], twos[i + 1]);
        }
        return x;
    }

    static void lay(QuasiSums x, int row, int... ints) {
        due("row(" + row + ", " + ints.length + ")", x.row(row, ints.length), 1);
        for (int i = 0; i < ints.length; i++) {
            due("lay(" + row + ", " + i + ", " + ints[i] + ")", x.lay(row, i, ints[i]), 1);
        }
    }

    static void feed(QuasiSums x, String text) {
        int has = x.count(1);
        for (char letter : text.toCharArray()) {
            has++;
            due("feed of " + letter, x.feed(letter), has);
        }
    }

    static int read(QuasiSums x, int r, String text) {
        feed(x, text);
        return x.read(r);
    }

    static void dueNumbers(QuasiSums x, int r, long... numbers) {
        dueNumbers("register " + r, x, r, numbers);
    }

    static void dueNumbers(String what, QuasiSums x, int r, long... numbers) {
        due(what + ": how many", x.told(r, 1), numbers.length);
        for (int c = 0; c < numbers.length; c++) {
            due(what + ": number " + c, x.of(r, c), numbers[c]);
        }
    }

    static void dueRow(QuasiSums x, int row, int... ints) {
        dueRow("row " + row, x, row, ints);
    }

    static void dueRow(String what, QuasiSums x, int row, int... ints) {
        for (int i = 0; i < ints.length; i++) {
            due(what + ": place " + i, x.get(row, i), ints[i]);
        }
        due(what + ": no more", x.get(row, ints.length), VOID);
    }

    static void dueOver(QuasiSums x, String call, int got, int number) {
        due(call, got, OVER);
        dueOver(call, x, number);
    }

    static void dueVoid(QuasiSums x, String call, long got, int number) {
        due(call, got, VOID);
        dueOver(call, x, number);
    }

    /** Why tells that a call was over at the composition of this number. */
    static void dueOver(String call, QuasiSums x, int number) {
        due(call + ": troubles", x.count(2), 1);
        due(call + ": sort", x.why(0, 0), 4);
        due(call + ": number", x.why(0, 1), number);
        due(call + ": no second", x.why(1, 0), NOT);
    }

    static void dueTroubles(QuasiSums x, int term, int sort, int number) {
        dueTroubles("why", x, term, sort, number);
    }

    /** Why tells that a text was refused at this term. */
    static void dueTroubles(String what, QuasiSums x, int term, int sort, int number) {
        due(what + ": troubles", x.count(2), 2);
        due(what + ": first sort", x.why(0, 0), 2);
        due(what + ": term", x.why(0, 1), term);
        due(what + ": second sort", x.why(1, 0), sort);
        due(what + ": number", x.why(1, 1), number);
        due(what + ": no third", x.why(2, 0), NOT);
    }
}
