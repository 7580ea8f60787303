// Promises 1 to 13: sums, their two bases, put together, multiplied, turned about, cut, counted.
public final class SumsTest extends Bench {
    private static void newObject() {
        QuasiSums x = new QuasiSums();
        for (int r = 0; r < 4; r++) {
            due("new told", x.told(r, 0), 0);
            due("new told", x.told(r, 2), 0);
            dueNumbers("new", x, r, 0);
        }
        for (int what = 0; what < 6; what++) {
            due("new count " + what, x.count(what), 0);
        }
        due("new rows", x.rowOf(-1, 77), 1);
        due("new back", x.back(), -5);
        due("new restore", x.restore(), -5);
        due("new why", x.why(0, 0), -2);
        due("new warmth", x.warmth(0), 0);
        due("new warmth", x.warmth(1), 0);
    }

    private static void zeroPutOf() {
        QuasiSums x = with(1, 3, 5, -6, 7, LEAST);
        dueNumbers("put", x, 1, 5, -6, 7, LEAST);
        due("told 0", x.told(1, 0), 3);
        due("told 1", x.told(1, 1), 4);
        due("told 2", x.told(1, 2), 4);
        due("put 0", x.put(1, 2, 0), 1);
        due("told 2", x.told(1, 2), 3);
        due("zero was 3", x.zero(1, 6), 3);
        due("told 2", x.told(1, 2), 0);
        due("told 1", x.told(1, 1), 32);
        due("zero was 6", x.zero(1, 0), 6);
        due("told 1", x.told(1, 1), 1);
        int[] badRegisters = {-1, 4, Integer.MAX_VALUE, Integer.MIN_VALUE};
        for (int r : badRegisters) {
            due("zero", x.zero(r, 0), -1);
            due("put", x.put(r, 0, 1), -1);
            due("of", x.of(r, 0), LEAST);
            due("fundamental", x.fundamental(r, 0, 1), -1);
            due("inF", x.inF(r, 0), LEAST);
            due("told", x.told(r, 0), -1);
            due("sum", x.sum(r, 0, 0), -1);
            due("sum", x.sum(0, r, 0), -1);
            due("sum", x.sum(0, 0, r), -1);
            due("multiply", x.multiply(r, 0, 0), -1);
            due("multiply", x.multiply(0, r, 0), -1);
            due("multiply", x.multiply(0, 0, r), -1);
            due("antipode", x.antipode(r, 0), -1);
            due("antipode", x.antipode(0, r), -1);
            due("cut", x.cut(r, 0, 0, 0), LEAST);
            due("counts", x.counts(r, 0), LEAST);
        }
        due("zero 7", x.zero(0, 7), -1);
        due("zero -1", x.zero(0, -1), -1);
        x.zero(0, 4);
        int[] badCompositions = {-1, 8, Integer.MAX_VALUE, Integer.MIN_VALUE};
        for (int c : badCompositions) {
            due("put", x.put(0, c, 1), -1);
            due("of", x.of(0, c), LEAST);
            due("fundamental", x.fundamental(0, c, 1), -1);
            due("inF", x.inF(0, c), LEAST);
        }
        due("told 3", x.told(0, 3), -1);
        due("told -1", x.told(0, -1), -1);
        due("refused: nothing comes", x.told(0, 2), 0);
        due("refused: no why", x.count(2), 0);
    }

    private static void fundamentals() {
        QuasiSums x = with(0, 3);
        due("fundamental", x.fundamental(0, 2, 5), 1);
        dueNumbers("F of 2", x, 0, 0, 0, 5, 5);
        due("fundamental", x.fundamental(0, 0, -1), 1);
        dueNumbers("F of 0", x, 0, -1, -1, 4, 4);
        due("inF 0", x.inF(0, 0), -1);
        due("inF 1", x.inF(0, 1), 0);
        due("inF 2", x.inF(0, 2), 5);
        due("inF 3", x.inF(0, 3), 0);
        QuasiSums m = with(0, 3, 1, 10, 100, 1000);
        due("inF 3", m.inF(0, 3), 1 - 10 - 100 + 1000);
        due("inF 2", m.inF(0, 2), 100 - 1);
        QuasiSums over = with(0, 3, 0, 1, 1, MOST);
        due("fundamental over", over.fundamental(0, 1, 1), -9);
        dueNumbers("over leaves", over, 0, 0, 1, 1, MOST);
        dueOver("fundamental", over, 3);
        over.put(0, 1, MOST);
        due("fundamental over first", over.fundamental(0, 0, 1), -9);
        dueOver("fundamental", over, 1);
        over.put(0, 0, 1);
        over.put(0, 1, LEAST);
        due("inF over by a sum", over.inF(0, 1), LEAST);
        dueOver("inF", over, 1);
        QuasiSums other = with(0, 3, 0, LEAST, 0, 0);
        due("inF: the least itself", other.inF(0, 1), LEAST);
        due("inF: no OVER", other.count(2), 0);
        due("inF: other sign", other.inF(0, 3), LEAST);
        dueOver("inF told one", other, 3);
        QuasiSums few = with(0, 3, -5, LEAST, 0, 0);
        due("inF: other sign is no long", few.inF(0, 3), LEAST);
        dueOver("inF told one", few, 3);
    }

    private static void compositions() {
        QuasiSums x = new QuasiSums();
        int[] numbers = {1, 3, 2};
        int c = 1 | 1 << 3;
        due("length", x.composition(6, c, 0), 3);
        due("turned", x.composition(6, c, 1), 1 << 1 | 1 << 4);
        due("rest", x.composition(6, c, 2), 31 - c);
        due("finer", x.composition(6, c, 3), 8);
        for (int i = 0; i < 3; i++) {
            due("number", x.composition(6, c, 10 + i), numbers[i]);
        }
        due("no number 3", x.composition(6, c, 13), -2);
        due("no such number", x.composition(6, c, Integer.MAX_VALUE), -2);
        due("finest: last number", x.composition(6, 31, 15), 1);
        due("finest: turned", x.composition(6, 31, 1), 31);
        due("finest: rest", x.composition(6, 31, 2), 0);
        due("coarsest: finer", x.composition(6, 0, 3), 32);
        due("empty: length", x.composition(0, 0, 0), 0);
        due("empty: number", x.composition(0, 0, 10), -2);
        due("n 7", x.composition(7, 0, 0), -1);
        due("n -1", x.composition(-1, 0, 0), -1);
        due("c 1 of 0", x.composition(0, 1, 0), -1);
        due("c 1 of 1", x.composition(1, 1, 0), -1);
        due("c 8 of 4", x.composition(4, 8, 0), -1);
        due("c -1", x.composition(4, -1, 0), -1);
        for (int what = 4; what < 10; what++) {
            due("what", x.composition(4, 0, what), -1);
        }
        due("what", x.composition(4, 0, -1), -1);
        due("what", x.composition(4, 0, Integer.MIN_VALUE), -1);
    }

    private static void sums() {
        QuasiSums x = with(0, 2, 3, -4);
        with(x, 1, 2, 10, 20);
        due("sum", x.sum(2, 0, 1), 2);
        dueNumbers("sum", x, 2, 13, 16);
        due("sum onto itself", x.sum(0, 0, 0), 2);
        dueNumbers("sum onto itself", x, 0, 6, -8);
        due("unlike", x.sum(0, 0, 3), -5);
        dueNumbers("unlike leaves", x, 0, 6, -8);
        x.put(0, 1, MOST);
        due("sum over", x.sum(3, 0, 1), -9);
        dueOver("sum", x, 1);
        due("sum over leaves", x.told(3, 0), 0);
        x.put(1, 1, LEAST);
        due("sum of both ends", x.sum(3, 0, 1), 2);
        due("sum of both ends", x.of(3, 1), -1);
        x.put(0, 0, LEAST);
        x.put(1, 0, -1);
        due("sum below", x.sum(3, 0, 1), -9);
        dueOver("sum", x, 0);
    }

    private static void products() {
        QuasiSums x = with(0, 1, 1);
        due("M1 M1", x.multiply(1, 0, 0), 2);
        dueNumbers("M1 M1", x, 1, 1, 2);
        due("M1 M1 M1", x.multiply(1, 1, 0), 3);
        dueNumbers("M1 M1 M1", x, 1, 1, 3, 3, 6);
        due("too heavy", x.multiply(2, 1, 1), 6);
        with(x, 2, 4);
        due("too heavy", x.multiply(0, 2, 1), -5);
        QuasiSums y = with(0, 3, 0, 0, 7, 0);
        with(y, 1, 2, 5, 0);
        due("M21 M2", y.multiply(2, 0, 1), 5);
        // (2,1) with (2): 221 twice, 212, 41, 23.
        long[] want = new long[16];
        want[2 | 8] = 70;
        want[2 | 4] = 35;
        want[8] = 35;
        want[2] = 35;
        dueNumbers("M21 M2", y, 2, want);
        QuasiSums six = with(0, 3, 0, 0, 0, 1);
        due("M111 M111", six.multiply(1, 0, 0), 6);
        due("M111 M111 in 111111", six.of(1, 31), 20);
        due("M111 M111 in 21111", six.of(1, 2 | 4 | 8 | 16), 6);
        due("M111 M111 in 1122", six.of(1, 1 | 2 | 8), 2);
        due("M111 M111 in 222", six.of(1, 2 | 8), 1);
        due("M111 M111 in 33", six.of(1, 4), 0);
        QuasiSums unit = with(0, 0, -3);
        with(unit, 1, 2, 4, 5);
        due("by weight 0", unit.multiply(0, 0, 1), 2);
        dueNumbers("by weight 0", unit, 0, -12, -15);
        QuasiSums big = with(0, 1, MOST);
        with(big, 1, 2, 0, 2);
        due("product of both over", big.multiply(2, 0, 1), -9);
        dueOver("product of both", big, 100);
        due("product of both over", big.multiply(2, 1, 0), -9);
        dueOver("product of both", big, 101);
        due("product over leaves", big.told(2, 0), 0);
        with(big, 1, 1, 1);
        due("times ways over", big.multiply(2, 0, 1), -9);
        dueOver("times ways", big, 1);
        with(big, 0, 2, MOST, 1);
        with(big, 1, 1, 1);
        due("a sum over", big.multiply(2, 0, 1), -9);
        // (2)(1): 3 once; 21 once, 12 once. (1,1)(1): 21, 12 once each: one too much at 12, by bits 1.
        dueOver("a sum", big, 1);
        with(big, 0, 1, LEAST);
        with(big, 1, 0, -1);
        due("the least by -1", big.multiply(2, 0, 1), -9);
        dueOver("the least by -1", big, 100);
        due("-1 by the least", big.multiply(2, 1, 0), -9);
        with(big, 1, 0, 1);
        due("the least by 1", big.multiply(2, 0, 1), 1);
        dueNumbers("the least by 1", big, 2, LEAST);
    }

    private static void antipodes() {
        QuasiSums x = with(0, 3, 2, 3, 5, 7);
        due("antipode", x.antipode(1, 0), 3);
        // 3: -2 to 3. 12 turned 21: 3 to 3 and 21. 21 turned 12: 5 to 3 and 12. 111: -7 to all.
        dueNumbers("antipode", x, 1, -2 + 3 + 5 - 7, 5 - 7, 3 - 7, -7);
        due("antipode of itself", x.antipode(1, 1), 3);
        dueNumbers("back again", x, 1, 2, 3, 5, 7);
        QuasiSums over = with(0, 3, LEAST, 0, 0, 0);
        due("other sign", over.antipode(1, 0), -9);
        dueOver("other sign", over, 0);
        with(over, 0, 3, 1, 0, 0, LEAST);
        due("other sign", over.antipode(1, 0), -9);
        dueOver("other sign", over, 3);
        with(over, 0, 3, 0, MOST, 1, 0);
        due("sum", over.antipode(1, 0), -9);
        dueOver("sum", over, 0);
        with(over, 0, 2, 0, LEAST);
        due("even length keeps its sign", over.antipode(1, 0), 2);
        dueNumbers("even length", over, 1, LEAST, LEAST);
    }

    private static void cuts() {
        QuasiSums x = with(0, 5);
        for (int c = 0; c < 16; c++) {
            x.put(0, c, 100 + c);
        }
        due("12 and 11", x.cut(0, 3, 1, 1), 100 + (1 | 4 | 8));
        due("3 and 2", x.cut(0, 3, 0, 0), 104);
        due("none and 1112", x.cut(0, 0, 0, 7), 107);
        due("1112 and none", x.cut(0, 5, 7, 0), 107);
        due("a 6", x.cut(0, 6, 0, 0), LEAST);
        due("a -1", x.cut(0, -1, 0, 0), LEAST);
        due("c 4 of 3", x.cut(0, 3, 4, 0), LEAST);
        due("c -1", x.cut(0, 3, -1, 0), LEAST);
        due("d 2 of 2", x.cut(0, 3, 0, 2), LEAST);
        due("d -1", x.cut(0, 3, 0, -1), LEAST);
        due("d 1 of 0", x.cut(0, 5, 0, 1), LEAST);
        due("c 1 of 0", x.cut(0, 0, 1, 0), LEAST);
    }

    private static void countings() {
        QuasiSums x = with(0, 3, 2, 3, 5, 7);
        due("counts 0", x.counts(0, 0), 0);
        due("counts 2", x.counts(0, 2), 4 + 8);
        due("counts 20", x.counts(0, 20), 40 + 8 * 190 + 7 * 1140);
        due("counts 21", x.counts(0, 21), LEAST);
        due("counts -1", x.counts(0, -1), LEAST);
        due("no why", x.count(2), 0);
        with(x, 0, 6);
        x.put(0, 31, 1);
        due("six of 20", x.counts(0, 20), 38760);
        due("six of 5", x.counts(0, 5), 0);
        with(x, 0, 2, MOST, 1);
        due("counts over by a product", x.counts(0, 2), LEAST);
        dueOver("counts product", x, 0);
        with(x, 0, 2, MOST / 2, 2);
        due("counts over by a sum", x.counts(0, 2), LEAST);
        dueOver("counts sum", x, 1);
        with(x, 0, 2, MOST, LEAST);
        due("none of 0", x.counts(0, 0), 0);
        due("one letter", x.counts(0, 1), MOST);
    }

    public static void main(String[] args) {
        newObject();
        zeroPutOf();
        fundamentals();
        compositions();
        sums();
        products();
        antipodes();
        cuts();
        countings();
        finish();
    }
}
