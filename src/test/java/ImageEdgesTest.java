// The boundary cases of the image, and what is counted (promises 38 to 40): a test for each sentence of ../shared/DOC.md that names one.
public final class ImageEdgesTest extends Bench {
    static void none() {
        says("restore: STATE: there is none");
        QuasiSums x = with(0, 2, 5);
        due("restore", x.restore(), STATE);
        dueNumbers(x, 0, 5, 0);
        due("STEPS stay", x.count(0), 2);
        due("back", x.back(), 1);
    }

    static void weights() {
        says("image, restore: all WEIGHTS together");
        QuasiSums x = new QuasiSums();
        due("none", x.image(), 0);
        for (int r = 0; r < 4; r++) {
            x.zero(r, 6);
        }
        due("none", x.restore(), 0);
        for (int r = 0; r < 4; r++) {
            x.zero(r, 6);
        }
        due("most", x.image(), 24);
        x.zero(2, 1);
        due("most", x.restore(), 24);
    }

    static void whatItHolds() {
        says("THE IMAGE: REGISTERS, THE ORDER, CELLS, RACKS");
        QuasiSums x = with(3, 2, 5, 6);
        x.order(4);
        x.below(2, 4);
        x.warm(5, 3, 0);
        float warm = 5f / 11f;
        x.store(2, 3, 0, 3);
        x.image();
        x.put(3, 1, 0);
        x.zero(0, 6);
        x.below(1, 2);
        x.order(5);
        x.warm(5, 3, 0);
        x.warm(0, 3, 0);
        x.store(2, 3, 0, 0);
        x.store(0, 0, 0, 0);
        due("restore", x.restore(), 2);
        dueNumbers(x, 3, 5, 6);
        due("WEIGHT", x.told(0, 0), 0);
        due("THINGS", x.count(4), 4);
        due("2 BELOW 4", x.isBelow(2, 4), 1);
        due("1 BELOW 2", x.isBelow(1, 2), 0);
        due("CELLS", x.warmth(0), Float.floatToRawIntBits(warm));
        due("held", x.count(3), 1);
        due("fetch", x.fetch(2, 3, 1), 0);
        dueNumbers(x, 1, 5, 6);
    }

    static void whatItLeaves() {
        says("restore() leaves ROWS, THE TAPE, WHY");
        QuasiSums x = new QuasiSums();
        lay(x, 0, 1, 2);
        feed(x, "M");
        x.image();
        read(x, 0, "M(");
        x.lay(0, 0, 9);
        x.row(2, 1);
        feed(x, "abc");
        due("restore", x.restore(), 0);
        dueRow(x, 0, 9, 2);
        dueRow(x, 2, 0);
        due("THE TAPE", x.count(1), 3);
        dueTroubles(x, 0, 1, 1);
    }

    static void noSteps() {
        says("restore() leaves none (STEPS)");
        QuasiSums x = with(0, 2, 5, 6);
        x.image();
        due("image() leaves them", x.count(0), 3);
        x.put(0, 0, 1);
        x.restore();
        due("STEPS", x.count(0), 0);
        due("back", x.back(), STATE);
        dueNumbers(x, 0, 5, 6);
    }

    static void staysAsItWas() {
        says("restore: All is as THE IMAGE (as often as it is called)");
        QuasiSums x = with(0, 1, 5);
        x.order(2);
        x.store(0, 1, 0, 0);
        x.warm(0, 0, 0);
        x.image();
        for (int n = 0; n < 3; n++) {
            due("restore", x.restore(), 1);
            dueNumbers(x, 0, 5);
            due("THINGS", x.rowOf(-1, 0), 2);
            due("held", x.count(3), 1);
            due("CELLS", x.warmth(0), Float.floatToRawIntBits(1f));
            x.put(0, 0, 8);
            x.below(2, 1);
            x.store(0, 0, 0, 0);
            x.store(0, 1, 0, 1);
            x.warm(0, 0, 0);
            x.warm(1, 0, 0);
            x.zero(1, 3);
        }
        due("another one", x.image(), 4);
        x.zero(0, 0);
        due("another one", x.restore(), 4);
        dueNumbers(x, 0, 8);
    }

    static void countBad() {
        says("count: BAD");
        QuasiSums x = new QuasiSums();
        for (int what : new int[] {-1, 6, LEAST_INT, MOST_INT}) {
            due("what " + what, x.count(what), BAD);
        }
    }

    static void countFirstAndMost() {
        says("count: 0 STEPS, 1 bytes, 2 TROUBLES, 3 places of RACKS, 4 THINGS, 5 ROWS that are not missing");
        QuasiSums x = new QuasiSums();
        for (int what = 0; what <= 5; what++) {
            due("at first, what " + what, x.count(what), 0);
        }
        read(x, 0, "M(");
        for (int n = 0; n < 90; n++) {
            x.feed('M');
            x.put(0, 0, n);
        }
        for (int i = 0; i < 12; i++) {
            x.row(i % 3, 0);
            x.store(i / 4, i % 4, i / 4 == 0 ? 0 : 1, 0);
        }
        x.order(6);
        int[] most = {8, 80, 2, 12, 6, 3};
        for (int what = 0; what <= 5; what++) {
            due("most, what " + what, x.count(what), most[what]);
        }
    }

    public static void main(String[] args) {
        testSentences(ImageEdgesTest.class);
    }
}
