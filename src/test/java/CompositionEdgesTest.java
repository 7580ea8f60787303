// The boundary cases of compositions as bits (promise 8, and the words on them in Terms): a test for each sentence of ../shared/DOC.md that names one.
public final class CompositionEdgesTest extends Bench {
    static void weights() {
        says("A COMPOSITION of n (0 .. 6)");
        QuasiSums x = new QuasiSums();
        due("of 0", x.composition(0, 0, 0), 0);
        due("of 1", x.composition(1, 0, 0), 1);
        due("of 6", x.composition(6, 0, 0), 1);
        due("of 6", x.composition(6, 31, 0), 6);
        for (int n : new int[] {-1, 7, 32, 33, LEAST_INT, MOST_INT}) {
            due("of " + n, x.composition(n, 0, 0), BAD);
            due("of " + n, x.composition(n, 0, 10), BAD);
        }
    }

    static void empty() {
        says("of 0 the empty one");
        QuasiSums x = new QuasiSums();
        due("LENGTH", x.composition(0, 0, 0), 0);
        due("TURNED", x.composition(0, 0, 1), 0);
        due("REST", x.composition(0, 0, 2), 0);
        due("FINER", x.composition(0, 0, 3), 1);
        due("its first number", x.composition(0, 0, 10), NOT);
        due("another one", x.composition(0, 1, 0), BAD);
    }

    static void bits() {
        says("bit i less 1 for each i of 1 .. n less 1 (of 4: 0 is 4; 1 is 1, 3; 2 is 2, 2; 7 is 1, 1, 1, 1)");
        QuasiSums x = new QuasiSums();
        int[][] numbers = {{4}, {1, 3}, {2, 2}, {1, 1, 2}, {3, 1}, {1, 2, 1}, {2, 1, 1}, {1, 1, 1, 1}};
        for (int c = 0; c < 8; c++) {
            due("LENGTH of " + c, x.composition(4, c, 0), numbers[c].length);
            for (int i = 0; i < numbers[c].length; i++) {
                due("number " + i + " of " + c, x.composition(4, c, 10 + i), numbers[c][i]);
            }
        }
    }

    static void ends() {
        says("composition: BAD: c");
        QuasiSums x = new QuasiSums();
        for (int n = 0; n <= 6; n++) {
            int many = n == 0 ? 1 : 1 << (n - 1);
            due("the last one of " + n, x.composition(n, many - 1, 0), n);
            for (int c : new int[] {-1, many, many + 1, LEAST_INT, MOST_INT}) {
                due(c + " of " + n, x.composition(n, c, 0), BAD);
                due(c + " of " + n, x.composition(n, c, 10), BAD);
            }
        }
    }

    static void whats() {
        says("composition: BAD: what");
        QuasiSums x = new QuasiSums();
        for (int what : new int[] {-1, 4, 5, 6, 7, 8, 9, -10, LEAST_INT}) {
            due("what " + what, x.composition(3, 1, what), BAD);
        }
    }

    static void numbers() {
        says("NOT: there are not so many numbers");
        QuasiSums x = new QuasiSums();
        for (int c = 0; c < 32; c++) {
            int length = x.composition(6, c, 0);
            due("the last number of " + c, x.composition(6, c, 9 + length) > 0 ? 1 : 0, 1);
            due("one more of " + c, x.composition(6, c, 10 + length), NOT);
        }
        due("most", x.composition(6, 31, MOST_INT), NOT);
        due("BAD is first", x.composition(6, 32, MOST_INT), BAD);
    }

    static void finerThanItself() {
        says("each is FINER than itself");
        QuasiSums x = new QuasiSums();
        for (int n = 1; n <= 6; n++) {
            due("the finest of " + n, x.composition(n, (1 << (n - 1)) - 1, 3), 1);
            due("the coarsest of " + n, x.composition(n, 0, 3), 1 << (n - 1));
        }
        x.zero(0, 3);
        x.fundamental(0, 3, 7);
        dueNumbers(x, 0, 0, 0, 0, 7);
    }

    static void turned() {
        says("TURNED: the other way about");
        QuasiSums x = new QuasiSums();
        due("6", x.composition(6, 0, 1), 0);
        due("1, 5", x.composition(6, 1, 1), 16);
        due("5, 1", x.composition(6, 16, 1), 1);
        due("3, 3", x.composition(6, 4, 1), 4);
        due("1, 1, 1, 1, 1, 1", x.composition(6, 31, 1), 31);
        due("1", x.composition(1, 0, 1), 0);
    }

    static void rest() {
        says("REST: the one with just the other bits");
        QuasiSums x = new QuasiSums();
        due("none", x.composition(6, 0, 2), 31);
        due("all", x.composition(6, 31, 2), 0);
        due("some", x.composition(6, 9, 2), 22);
        due("of 1", x.composition(1, 0, 2), 0);
        due("of 2", x.composition(2, 0, 2), 1);
    }

    public static void main(String[] args) {
        testSentences(CompositionEdgesTest.class);
    }
}
