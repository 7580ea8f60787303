// The boundary cases of steps taken back (promise 33): a test for each sentence of ../shared/DOC.md that names one.
public final class StepEdgesTest extends Bench {
    static void none() {
        says("back: STATE: there is none");
        QuasiSums x = new QuasiSums();
        due("at first", x.back(), STATE);
        x.put(0, 0, 1);
        due("one", x.back(), 0);
        due("all taken back", x.back(), STATE);
        due("as it was", x.of(0, 0), 0);
    }

    static void eightAtMost() {
        says("the latest first, 8 at most (then the eldest is none any more)");
        QuasiSums x = new QuasiSums();
        for (int v = 1; v <= 8; v++) {
            x.put(0, 0, v);
            due("STEPS", x.count(0), v);
        }
        x.zero(1, 1);
        due("STEPS", x.count(0), 8);
        due("the latest", x.back(), 7);
        due("the latest", x.told(1, 0), 0);
        for (int left = 6; left >= 0; left--) {
            due("back", x.back(), left);
            due("the number", x.of(0, 0), left + 1);
        }
        due("the eldest", x.back(), STATE);
        due("the number", x.of(0, 0), 1);
    }

    static void allEight() {
        says("8 at most (eight can all be taken back)");
        QuasiSums x = new QuasiSums();
        for (int v = 1; v <= 8; v++) {
            x.put(v % 4, 0, v);
        }
        for (int left = 7; left >= 0; left--) {
            due("back", x.back(), left);
        }
        for (int r = 0; r < 4; r++) {
            due("the number", x.of(r, 0), 0);
        }
        due("none", x.back(), STATE);
    }

    static void whatIsOne() {
        says("STEPS: what zero(), put(), fundamental(), sum(), multiply(), antipode(), made(), read(), fetch() of a SUM");
        QuasiSums x = new QuasiSums();
        x.store(0, 0, 0, 0);
        long[] answers = {x.put(0, 0, 2), x.fundamental(0, 0, 1), x.sum(1, 0, 0), x.multiply(2, 1, 1),
            x.antipode(3, 0), x.fetch(0, 0, 1), x.zero(3, 1), x.made(2)};
        long[] want = {1, 1, 0, 0, 0, 0, 0, 0};
        for (int i = 0; i < 8; i++) {
            due("call " + i, answers[i], want[i]);
        }
        due("STEPS", x.count(0), 8);
        long[][] ahead = {{3, 0, 36, 0}, {3, 0, 36, 3}, {3, 6, 36, 3}, {3, 6, 36, 0}, {3, 6, 0, 0}, {3, 0, 0, 0},
            {2, 0, 0, 0}, {0, 0, 0, 0}};
        for (int i = 0; i < 8; i++) {
            due("back", x.back(), 7 - i);
            for (int r = 0; r < 4; r++) {
                due("back " + i + ", REGISTER " + r, x.of(r, 0), ahead[i][r]);
            }
        }
        due("read", read(x, 2, "5M()"), 0);
        due("STEPS", x.count(0), 1);
        due("back", x.back(), 0);
        due("back", x.of(2, 0), 0);
    }

    static void whatIsNone() {
        says("STEPS (what else can be called is none)");
        QuasiSums x = with(0, 2, 3, 4);
        int steps = x.count(0);
        lay(x, 0, 1, 2);
        x.store(1, 0, 1, 0);
        x.fetch(1, 0, 1);
        x.order(3);
        x.below(1, 2);
        x.warm(0, 0, 0);
        x.film(2, 0);
        x.copy(0, 0, 1, 0, 2);
        x.store(0, 0, 0, 0);
        x.image();
        x.feed('M');
        x.wipe();
        x.counts(0, 2);
        x.inF(0, 1);
        due("STEPS", x.count(0), steps);
        due("back", x.back(), steps - 1);
        due("the latest one", x.of(0, 1), 0);
        due("THE ORDER stays", x.isBelow(1, 2), 1);
        due("RACKS stay", x.count(3), 2);
    }

    static void refusedIsNone() {
        says("ANSWERS that are refusals (nothing changes): no STEP");
        QuasiSums x = with(0, 1, MOST);
        due("STEPS", x.count(0), 2);
        x.zero(0, 7);
        x.put(0, 1, 1);
        x.fundamental(0, 0, 1);
        x.sum(0, 0, 0);
        x.sum(0, 0, 1);
        x.multiply(0, 0, 0);
        x.made(4);
        read(x, 0, "M(7)");
        x.fetch(0, 0, 0);
        with(x, 1, 0, LEAST);
        due("STEPS", x.count(0), 3);
        x.zero(2, 1);
        x.put(2, 0, LEAST);
        x.antipode(3, 2);
        due("STEPS", x.count(0), 5);
    }

    static void notOtherwise() {
        says("STEPS: what ... made otherwise");
        QuasiSums x = new QuasiSums();
        x.store(0, 0, 0, 0);
        x.zero(0, 0);
        x.put(1, 0, 0);
        x.fundamental(2, 0, 0);
        x.sum(3, 0, 1);
        x.multiply(0, 1, 2);
        x.antipode(1, 1);
        x.fetch(0, 0, 3);
        read(x, 2, "0M()");
        due("STEPS", x.count(0), 0);
        x.made(3);
        x.made(3);
        due("made is one at first", x.count(0), 1);
        x.zero(0, 1);
        due("another WEIGHT is otherwise", x.count(0), 2);
    }

    public static void main(String[] args) {
        testSentences(StepEdgesTest.class);
    }
}
