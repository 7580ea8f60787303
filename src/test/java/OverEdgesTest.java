// The boundary cases of what is OVER: which is so first, and what just fits (promises 5, 6, 9 to 11, 13): a test for each sentence of ../shared/DOC.md that names one.
public final class OverEdgesTest extends Bench {
    // Twice this is no long, and just this sum differs from both of its parts in every bit.
    private static final long THIRD = 0x5555555555555555L;

    static void sumsThatFit() {
        says("sum: OVER; each sum must be a long");
        QuasiSums x = with(0, 2, MOST, LEAST);
        with(x, 1, 2, LEAST, MOST);
        due("MOST and LEAST", x.sum(2, 0, 1), 2);
        dueNumbers(x, 2, -1, -1);
        with(x, 1, 2, 0, 0);
        due("and 0", x.sum(2, 0, 1), 2);
        dueNumbers(x, 2, MOST, LEAST);
        with(x, 1, 2, 0, -1);
        dueOver(x, "sum", x.sum(2, 0, 1), 1);
        with(x, 1, 2, 1, -1);
        dueOver(x, "sum", x.sum(2, 0, 1), 0);
        dueNumbers(x, 2, MOST, LEAST);
        with(x, 0, 2, THIRD, 0);
        dueOver(x, "sum of one number twice", x.sum(2, 0, 0), 0);
        with(x, 0, 2, MOST / 2, LEAST / 2);
        due("halves", x.sum(2, 0, 0), 2);
        dueNumbers(x, 2, MOST - 1, LEAST);
    }

    static void sumOntoItself() {
        says("sum: OVER; what came ahead is not kept");
        QuasiSums x = with(0, 3, 1, 2, MOST, 4);
        dueOver(x, "sum", x.sum(0, 0, 0), 2);
        dueNumbers(x, 0, 1, 2, MOST, 4);
    }

    static void fundamentalOver() {
        says("fundamental: OVER; v comes to each FINER one, from 0 on");
        QuasiSums x = with(0, 3, MOST, 0, MOST - 5, MOST);
        dueOver(x, "of the coarsest", x.fundamental(0, 0, 1), 0);
        dueOver(x, "of 2", x.fundamental(0, 2, 6), 2);
        dueOver(x, "of 2, the first fits", x.fundamental(0, 2, 5), 3);
        dueOver(x, "of 1, the first fits", x.fundamental(0, 1, MOST), 3);
        dueNumbers(x, 0, MOST, 0, MOST - 5, MOST);
        due("0 times", x.fundamental(0, 0, 0), 1);
        with(x, 0, 3, 0, -1, 0, 0);
        dueOver(x, "the least", x.fundamental(0, 1, LEAST), 1);
        with(x, 0, 3, 0, 0, 0, 0);
        due("the least to 0", x.fundamental(0, 1, LEAST), 1);
        dueNumbers(x, 0, 0, LEAST, 0, LEAST);
    }

    static void inFOver() {
        says("inF: OVER; F NUMBERS: by COMPOSITIONS from 0 on, each sum must be a long (F NUMBER: the told one)");
        QuasiSums x = with(0, 3, MOST, -2, 5, 0);
        dueVoid(x, "inF, too great on the way", x.inF(0, 3), 3);
        dueVoid(x, "inF, too great", x.inF(0, 1), 1);
        due("fits", x.inF(0, 2), 5 - MOST);
    }

    static void inFEnds() {
        says("inF: OVER (both ends of the longs)");
        QuasiSums x = with(0, 2, 1, LEAST + 1);
        due("the least", x.inF(0, 1), LEAST);
        due("no OVER", x.count(2), 0);
        with(x, 0, 2, 2, LEAST + 1);
        dueVoid(x, "inF below the least", x.inF(0, 1), 1);
        with(x, 0, 2, -1, MOST - 1);
        due("the most", x.inF(0, 1), MOST);
        with(x, 0, 2, -2, MOST - 1);
        dueVoid(x, "inF above the most", x.inF(0, 1), 1);
    }

    static void inFOtherSign() {
        says("F NUMBER: the number of b, with the other sign (all longs exactly: else it is OVER)");
        QuasiSums x = with(0, 2, LEAST, 0);
        dueVoid(x, "inF, the other sign of the least", x.inF(0, 1), 1);
        with(x, 0, 2, LEAST, -1);
        dueVoid(x, "inF, also where both together would be a long", x.inF(0, 1), 1);
        with(x, 0, 2, LEAST, 5);
        due("its own sign", x.inF(0, 0), LEAST);
    }

    static void productOfBoth() {
        says("the product of both numbers, in PRODUCT: 100 and c");
        QuasiSums x = with(0, 3, 0, 0, 1, MOST);
        with(x, 1, 0, 2);
        dueOver(x, "multiply", x.multiply(2, 0, 1), 103);
        dueOver(x, "multiply, the other one ahead", x.multiply(2, 1, 0), 100);
        due("as it was", x.told(2, 0), 0);
        with(x, 1, 0, 0);
        due("by 0", x.multiply(2, 0, 1), 3);
        with(x, 1, 0, -1);
        due("by -1", x.multiply(2, 0, 1), 3);
        dueNumbers(x, 2, 0, 0, -1, -MOST);
    }

    static void productOfTheLeast() {
        says("multiply: OVER; each product must be a long");
        QuasiSums x = with(0, 1, LEAST);
        with(x, 1, 0, 1);
        due("the least by 1", x.multiply(2, 0, 1), 1);
        dueNumbers(x, 2, LEAST);
        due("1 by the least", x.multiply(2, 1, 0), 1);
        dueNumbers(x, 2, LEAST);
        with(x, 1, 0, -1);
        dueOver(x, "the least by -1", x.multiply(2, 0, 1), 100);
        dueOver(x, "-1 by the least", x.multiply(2, 1, 0), 100);
        dueNumbers(x, 2, LEAST);
        with(x, 0, 0, LEAST / 2);
        with(x, 1, 0, 2);
        due("half the least by 2", x.multiply(2, 0, 1), 0);
        dueNumbers(x, 2, LEAST);
        with(x, 1, 0, -2);
        dueOver(x, "half the least by -2", x.multiply(2, 0, 1), 100);
        with(x, 0, 0, 1L << 32);
        dueOver(x, "a product that is 0 as a long", x.multiply(2, 0, 0), 100);
    }

    static void productByWays() {
        says("in PRODUCT: of both numbers; then times the ways");
        QuasiSums x = with(0, 1, MOST / 2);
        with(x, 1, 1, 1);
        due("two ways fit", x.multiply(2, 0, 1), 2);
        dueNumbers(x, 2, MOST / 2, MOST - 1);
        with(x, 0, 1, MOST / 2 + 1);
        dueOver(x, "two ways", x.multiply(2, 0, 1), 1);
        with(x, 0, 1, LEAST / 2);
        due("two ways fit", x.multiply(2, 0, 1), 2);
        dueNumbers(x, 2, LEAST / 2, LEAST);
        with(x, 0, 1, LEAST / 2 - 1);
        dueOver(x, "two ways", x.multiply(2, 0, 1), 1);
    }

    static void productByWaysAlone() {
        says("each product must be a long (also where the sum would be one)");
        // -5 comes to 1, 1, 2 ahead; (1, 1) by (1, 1) comes to it in two ways.
        QuasiSums x = with(0, 2, -5, 1L << 62);
        with(x, 1, 2, 0, 1);
        dueOver(x, "multiply", x.multiply(2, 0, 1), 3);
    }

    static void productSums() {
        says("PRODUCT: each sum must be a long, by COMPOSITIONS e from 0 on");
        // (2) by (1): 3, 1 2, 2 1 once each; (1, 1) by (1): 1 2 and 2 1 once each, 1 1 1 three times.
        QuasiSums x = with(0, 2, MOST, 1);
        with(x, 1, 1, 1);
        dueOver(x, "multiply", x.multiply(2, 0, 1), 1);
        with(x, 0, 2, MOST - 1, 1);
        due("fits", x.multiply(2, 0, 1), 3);
        dueNumbers(x, 2, MOST - 1, MOST, MOST, 3);
        with(x, 0, 2, 0, MOST / 2);
        dueOver(x, "three ways", x.multiply(2, 0, 1), 3);
        dueNumbers(x, 2, MOST - 1, MOST, MOST, 3);
        dueOver(x, "onto itself", x.multiply(0, 0, 1), 3);
        dueNumbers(x, 0, 0, MOST / 2);
    }

    static void productOrder() {
        says("of PRODUCT c ahead of d, then e. What is OVER first is told");
        QuasiSums x = with(0, 2, 2, MOST);
        dueOver(x, "c ahead of d", x.multiply(1, 0, 0), 100);
        with(x, 0, 2, 1, 3);
        with(x, 1, 1, MOST);
        dueOver(x, "the next c", x.multiply(2, 0, 1), 101);
        with(x, 0, 1, MOST);
        with(x, 1, 2, 1, 3);
        dueOver(x, "the next d", x.multiply(2, 0, 1), 100);
        // (2) by (2): twice 2, 2.
        with(x, 0, 2, MOST, 2);
        with(x, 1, 2, 1, MOST);
        dueOver(x, "e ahead of the next d", x.multiply(2, 0, 1), 2);
    }

    static void antipodeSign() {
        says("the other sign of a number, in ANTIPODE: its own");
        QuasiSums x = with(0, 3, 0, 0, 0, LEAST);
        dueOver(x, "antipode", x.antipode(1, 0), 3);
        due("as it was", x.told(1, 0), 0);
        with(x, 0, 3, LEAST, 0, 0, LEAST);
        dueOver(x, "antipode, from 0 on", x.antipode(1, 0), 0);
        with(x, 0, 3, 0, 0, LEAST, 0);
        due("of even LENGTH it keeps its sign", x.antipode(1, 0), 3);
        dueNumbers(x, 1, LEAST, LEAST, 0, 0);
    }

    static void antipodeSums() {
        says("antipode: OVER (the COMPOSITION that came to be too great)");
        // 2, 1 turned is 1, 2: its number comes to 3 and 1, 2; that of 1, 1, 1 to all.
        QuasiSums x = with(0, 3, 5, 0, MOST, -1);
        dueOver(x, "antipode", x.antipode(1, 0), 1);
        dueOver(x, "antipode onto itself", x.antipode(0, 0), 1);
        dueNumbers(x, 0, 5, 0, MOST, -1);
        with(x, 0, 3, 0, MOST, 1, 0);
        dueOver(x, "antipode, the first one", x.antipode(1, 0), 0);
        with(x, 0, 3, 1, MOST, 1, 0);
        due("fits", x.antipode(1, 0), 3);
        dueNumbers(x, 1, MOST, 1, MOST, 0);
    }

    static void antipodeOrder() {
        says("ANTIPODE: by COMPOSITIONS from 0 on: what is OVER first is told");
        QuasiSums x = with(0, 3, 0, MOST, 1, LEAST);
        dueOver(x, "a sum ahead of a sign", x.antipode(1, 0), 0);
        with(x, 0, 3, LEAST + 1, MOST, MOST, 0);
        dueOver(x, "the first sum", x.antipode(1, 0), 0);
    }

    static void countsOver() {
        says("COUNTS: the one at which it was first so");
        QuasiSums x = with(0, 3, 0, MOST / 3, 0, MOST);
        dueVoid(x, "counts, a sum", x.counts(0, 3), 3);
        with(x, 0, 3, MOST, 0, LEAST, 0);
        due("each product and each sum fits", x.counts(0, 1), MOST);
        dueVoid(x, "counts, a product", x.counts(0, 2), 0);
        with(x, 0, 3, 0, 0, LEAST, LEAST);
        due("nothing to pick", x.counts(0, 1), 0);
        due("the least by 1", x.counts(0, 2), LEAST);
        dueVoid(x, "counts, the least by 3", x.counts(0, 3), 2);
    }

    static void countsOnTheWay() {
        says("COUNTS: each sum must be a long, by COMPOSITIONS from 0 on");
        QuasiSums x = with(0, 3, MOST / 2, 2, -5, 0);
        dueVoid(x, "counts, too great on the way", x.counts(0, 2), 1);
        with(x, 0, 3, MOST / 2, 1, -5, 0);
        due("fits", x.counts(0, 2), MOST - 5);
    }

    public static void main(String[] args) {
        testSentences(OverEdgesTest.class);
    }
}
