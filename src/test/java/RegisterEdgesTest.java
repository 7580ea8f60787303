// The boundary cases of registers: which there are, and what each call on them refuses (promises 1 to 7 and 9 to 13): a test for each sentence of ../shared/DOC.md that names one.
public final class RegisterEdgesTest extends Bench {
    private static final int[] NONE = {-1, 4, 5, LEAST_INT, MOST_INT};

    static void atFirst() {
        says("REGISTERS 0 .. 3 hold a SUM each (WEIGHT 0, its number 0, at first)");
        QuasiSums x = new QuasiSums();
        for (int r = 0; r < 4; r++) {
            due("WEIGHT", x.told(r, 0), 0);
            due("not 0", x.told(r, 2), 0);
            dueNumbers(x, r, 0);
        }
    }

    static void zeroBad() {
        says("zero: BAD (REGISTERS 0 .. 3, n 0 .. 6)");
        QuasiSums x = with(3, 1, 5);
        for (int r : NONE) {
            due("r " + r, x.zero(r, 0), BAD);
        }
        for (int n : new int[] {-1, 7, LEAST_INT, MOST_INT}) {
            due("n " + n, x.zero(3, n), BAD);
        }
        dueNumbers(x, 3, 5);
        due("r 0", x.zero(0, 6), 0);
        due("r 3", x.zero(3, 0), 1);
    }

    static void zeroEverywhere() {
        says("zero: A REGISTER becomes 0 everywhere, of WEIGHT n: its WEIGHT as it was");
        QuasiSums x = new QuasiSums();
        for (int n = 0; n <= 6; n++) {
            x.zero(1, n);
            int many = x.told(1, 1);
            due("how many", many, n == 0 ? 1 : 1 << (n - 1));
            x.put(1, many - 1, 3);
            due("of the same weight", x.zero(1, n), n);
            due("0", x.told(1, 2), 0);
        }
        due("as it was", x.zero(1, 0), 6);
        due("as it was", x.zero(1, 6), 0);
    }

    static void putBad() {
        says("put: BAD: r, c");
        QuasiSums x = with(0, 3);
        for (int r : NONE) {
            due("r " + r, x.put(r, 0, 1), BAD);
        }
        for (int c : new int[] {-1, 4, 5, LEAST_INT, MOST_INT}) {
            due("c " + c, x.put(0, c, 1), BAD);
        }
        due("0 everywhere", x.told(0, 2), 0);
        due("the last one", x.put(0, 3, 1), 1);
        due("of WEIGHT 0", x.put(1, 1, 1), BAD);
        x.zero(1, 1);
        due("of WEIGHT 1", x.put(1, 1, 1), BAD);
    }

    static void leastNumber() {
        says("VOID: the least long (a number may be it, too)");
        QuasiSums x = with(0, 1, LEAST);
        due("of", x.of(0, 0), LEAST);
        due("inF", x.inF(0, 0), LEAST);
        due("counts", x.counts(0, 1), LEAST);
        due("cut", x.cut(0, 1, 0, 0), LEAST);
        due("no OVER", x.count(2), 0);
        due("not 0", x.told(0, 2), 1);
    }

    static void ofVoid() {
        says("of: VOID: BAD");
        QuasiSums x = with(3, 3, 1, 2, 3, 4);
        for (int r : NONE) {
            due("r " + r, x.of(r, 0), VOID);
        }
        for (int c : new int[] {-1, 4, LEAST_INT, MOST_INT}) {
            due("c " + c, x.of(3, c), VOID);
        }
        due("the last one", x.of(3, 3), 4);
        due("no WHY", x.count(2), 0);
    }

    static void fundamentalBad() {
        says("fundamental: BAD: r, c");
        QuasiSums x = with(0, 3);
        for (int r : NONE) {
            due("r " + r, x.fundamental(r, 0, 1), BAD);
        }
        for (int c : new int[] {-1, 4, LEAST_INT, MOST_INT}) {
            due("c " + c, x.fundamental(0, c, 1), BAD);
        }
        due("0 everywhere", x.told(0, 2), 0);
        due("the last one", x.fundamental(0, 3, 1), 1);
        due("r 3", x.fundamental(3, 0, 1), 1);
    }

    static void inFVoid() {
        says("inF: VOID: BAD");
        QuasiSums x = with(3, 2, 5, 9);
        for (int r : NONE) {
            due("r " + r, x.inF(r, 0), VOID);
        }
        for (int c : new int[] {-1, 2, LEAST_INT, MOST_INT}) {
            due("c " + c, x.inF(3, c), VOID);
        }
        due("the first one", x.inF(3, 0), 5);
        due("the last one", x.inF(3, 1), 4);
        due("no WHY", x.count(2), 0);
    }

    static void inFApart() {
        says("F NUMBER: with the other sign, if the LENGTHS of c and b are an odd number apart");
        for (int n = 0; n <= 6; n++) {
            QuasiSums x = with(0, n, 1);
            for (int c = 0; c < x.told(0, 1); c++) {
                due("of " + n + ", of " + c, x.inF(0, c), Integer.bitCount(c) % 2 == 0 ? 1 : -1);
            }
        }
        QuasiSums x = with(0, 0, 5);
        due("of the empty one", x.inF(0, 0), 5);
    }

    static void toldBad() {
        says("told: BAD");
        QuasiSums x = with(3, 3, 0, 7, 0, -7);
        for (int r : NONE) {
            due("r " + r, x.told(r, 0), BAD);
        }
        for (int what : new int[] {-1, 3, LEAST_INT, MOST_INT}) {
            due("what " + what, x.told(3, what), BAD);
        }
        due("WEIGHT", x.told(3, 0), 3);
        due("COMPOSITIONS", x.told(3, 1), 4);
        due("not 0", x.told(3, 2), 2);
    }

    static void sumBad() {
        says("sum: BAD");
        QuasiSums x = with(2, 1, 5);
        for (int r : NONE) {
            due("r " + r, x.sum(r, 0, 0), BAD);
            due("s " + r, x.sum(0, r, 0), BAD);
            due("t " + r, x.sum(0, 0, r), BAD);
            due("BAD ahead of STATE", x.sum(r, 0, 2), BAD);
        }
        due("r 3", x.sum(3, 2, 2), 1);
        dueNumbers(x, 3, 10);
    }

    static void stateAheadOfOver() {
        says("of several the first as the call's words name them (STATE ahead of OVER)");
        QuasiSums x = with(0, 1, MOST);
        with(x, 1, 6, MOST);
        due("sum", x.sum(2, 0, 1), STATE);
        due("multiply", x.multiply(2, 0, 1), STATE);
        due("no WHY", x.count(2), 0);
    }

    static void sumState() {
        says("sum: STATE: unlike WEIGHTS");
        QuasiSums x = with(0, 1, 5);
        due("0 and 1", x.sum(2, 1, 0), STATE);
        due("1 and 0", x.sum(2, 0, 1), STATE);
        due("as it was", x.told(2, 0), 0);
        x.zero(2, 6);
        due("1 and 1, to one of 6", x.sum(2, 0, 0), 1);
        dueNumbers(x, 2, 10);
    }

    static void multiplyBad() {
        says("multiply: BAD");
        QuasiSums x = with(2, 6);
        for (int r : NONE) {
            due("r " + r, x.multiply(r, 0, 0), BAD);
            due("s " + r, x.multiply(0, r, 0), BAD);
            due("t " + r, x.multiply(0, 0, r), BAD);
            due("BAD ahead of STATE", x.multiply(r, 2, 2), BAD);
        }
        due("r 3", x.multiply(3, 2, 1), 6);
    }

    static void multiplyState() {
        says("PRODUCT of two (WEIGHTS 6 together at most); multiply: STATE: above 6");
        QuasiSums x = new QuasiSums();
        for (int n = 0; n <= 6; n++) {
            for (int m = 0; m <= 6; m++) {
                x.zero(0, n);
                x.zero(1, m);
                due(n + " and " + m, x.multiply(2, 0, 1), n + m <= 6 ? n + m : STATE);
            }
        }
        with(x, 0, 6, 7);
        with(x, 2, 1, 9);
        due("6 and 1", x.multiply(2, 0, 2), STATE);
        dueNumbers(x, 2, 9);
    }

    static void productOfSix() {
        says("PRODUCT of two (WEIGHTS 6 together): each way till nothing is left");
        QuasiSums x = with(0, 3, 1);
        due("3 by 3", x.multiply(1, 0, 0), 6);
        due("6", x.of(1, 0), 1);
        due("3, 3", x.of(1, 4), 2);
        due("no more", x.told(1, 2), 2);
        with(x, 0, 3, 0, 0, 0, 1);
        due("1, 1, 1 by 1, 1, 1", x.multiply(1, 0, 0), 6);
        due("1, 1, 1, 1, 1, 1", x.of(1, 31), 20);
        due("2, 2, 2", x.of(1, 10), 1);
        due("6 is none", x.of(1, 0), 0);
        with(x, 0, 6, 0, 3);
        with(x, 2, 0, 5);
        due("6 by none", x.multiply(1, 0, 2), 6);
        due("1, 5", x.of(1, 1), 15);
        due("no more", x.told(1, 2), 1);
    }

    static void productOfNothing() {
        says("a way is a row of steps, till nothing is left");
        QuasiSums x = with(0, 0, 3);
        with(x, 1, 2, 4, 5);
        due("the empty one by itself", x.multiply(2, 0, 0), 0);
        dueNumbers(x, 2, 9);
        due("the empty one ahead", x.multiply(2, 0, 1), 2);
        dueNumbers(x, 2, 12, 15);
        due("the empty one behind", x.multiply(2, 1, 0), 2);
        dueNumbers(x, 2, 12, 15);
    }

    static void antipodeBad() {
        says("antipode: BAD");
        QuasiSums x = with(3, 1, 5);
        for (int r : NONE) {
            due("r " + r, x.antipode(r, 3), BAD);
            due("s " + r, x.antipode(3, r), BAD);
        }
        dueNumbers(x, 3, 5);
        due("r 3", x.antipode(3, 3), 1);
        dueNumbers(x, 3, -5);
    }

    static void antipodeOfEmpty() {
        says("ANTIPODE: with the other sign if LENGTH is odd (of the empty one it is 0)");
        QuasiSums x = with(0, 0, 5);
        due("antipode", x.antipode(1, 0), 0);
        dueNumbers(x, 1, 5);
    }

    static void cutVoid() {
        says("cut: VOID: BAD (a and b together WEIGHT)");
        QuasiSums x = with(3, 3, 10, 11, 12, 13);
        for (int r : NONE) {
            due("r " + r, x.cut(r, 0, 0, 0), VOID);
        }
        for (int a : new int[] {-1, 4, LEAST_INT, MOST_INT}) {
            due("a " + a, x.cut(3, a, 0, 0), VOID);
        }
        for (int none : new int[] {-1, 2, LEAST_INT, MOST_INT}) {
            due("c " + none + " of 2", x.cut(3, 2, none, 0), VOID);
            due("d " + none + " of 2", x.cut(3, 1, 0, none), VOID);
        }
        due("c 1 of 1", x.cut(3, 1, 1, 0), VOID);
        due("d 1 of 1", x.cut(3, 2, 0, 1), VOID);
        due("2, 1", x.cut(3, 2, 0, 0), 12);
        due("1, 1, 1", x.cut(3, 2, 1, 0), 13);
        due("1, 2", x.cut(3, 1, 0, 0), 11);
        due("1, 1, 1", x.cut(3, 1, 0, 1), 13);
    }

    static void cutAtTheEnds() {
        says("CUT: the number of c, and behind it d (one of them may be the empty one)");
        QuasiSums x = with(0, 3, 10, 11, 12, 13);
        for (int c = 0; c < 4; c++) {
            due("none and " + c, x.cut(0, 0, 0, c), 10 + c);
            due(c + " and none", x.cut(0, 3, c, 0), 10 + c);
        }
        due("c 1 of 0", x.cut(0, 0, 1, 0), VOID);
        due("d 1 of 0", x.cut(0, 3, 0, 1), VOID);
        due("c 4 of 3", x.cut(0, 3, 4, 0), VOID);
        due("d 4 of 3", x.cut(0, 0, 0, 4), VOID);
        due("none and none", with(1, 0, 6).cut(1, 0, 0, 0), 6);
    }

    static void countsVoid() {
        says("counts: VOID: BAD (k letters, 0 .. 20)");
        QuasiSums x = with(3, 2, 1, 1);
        for (int r : NONE) {
            due("r " + r, x.counts(r, 1), VOID);
        }
        for (int k : new int[] {-1, 21, LEAST_INT, MOST_INT}) {
            due("k " + k, x.counts(3, k), VOID);
        }
        due("20 letters", x.counts(3, 20), 20 + 190);
        due("no letters", x.counts(3, 0), 0);
        due("no WHY", x.count(2), 0);
    }

    static void countsOfFewLetters() {
        says("COUNTS: how many ways there are to pick LENGTH of k");
        QuasiSums x = with(0, 0, 5);
        due("none of none", x.counts(0, 0), 5);
        due("none of 20", x.counts(0, 20), 5);
        with(x, 0, 3, 0, 0, 0, 7);
        due("three of two", x.counts(0, 2), 0);
        due("three of three", x.counts(0, 3), 7);
        due("three of four", x.counts(0, 4), 28);
    }

    public static void main(String[] args) {
        testSentences(RegisterEdgesTest.class);
    }
}
