// The boundary cases of the order (promises 14 to 20): a test for each sentence of ../shared/DOC.md that names one.
public final class OrderEdgesTest extends Bench {
    private static final int[] NO_SIZE = {-1, 7, LEAST_INT, MOST_INT};

    static void sizes() {
        says("THINGS 1 .. p (p 0 .. 6; 0 at first); order: how many there were. BAD");
        QuasiSums x = new QuasiSums();
        due("at first", x.count(4), 0);
        due("6", x.order(6), 0);
        for (int p : NO_SIZE) {
            due("p " + p, x.order(p), BAD);
        }
        due("as it was", x.count(4), 6);
        due("0", x.order(0), 6);
        due("1", x.order(1), 0);
        due("none", x.count(4), 1);
    }

    static void anew() {
        says("order() makes THE ORDER anew: none BELOW another");
        QuasiSums x = ordered(3, 1, 2, 2, 3);
        due("a size that is none", x.order(7), BAD);
        due("1 BELOW 3 still", x.isBelow(1, 3), 1);
        due("the same size", x.order(3), 3);
        due("1 BELOW 3", x.isBelow(1, 3), 0);
        due("ROWS", x.rowOf(-1, 0), 6);
        due("the first two", x.below(3, 1), 1);
    }

    static void noSuchThings() {
        says("below: BAD: no such THINGS");
        QuasiSums x = new QuasiSums();
        due("no THINGS", x.below(1, 1), BAD);
        x.order(3);
        for (int i : new int[] {-1, 0, 4, 32, 33, LEAST_INT, MOST_INT}) {
            due(i + " BELOW 1", x.below(i, 1), BAD);
            due("1 BELOW " + i, x.below(1, i), BAD);
            due("ahead of STATE: both " + i, x.below(i, i), BAD);
        }
        due("3 BELOW 1", x.below(3, 1), 1);
    }

    static void roundAbout() {
        says("BELOW: STATE, if j is BELOW i, or both are one");
        QuasiSums x = ordered(4, 2, 1);
        due("both one", x.below(3, 3), STATE);
        due("the other way", x.below(1, 2), STATE);
        x.below(1, 4);
        due("the other way, by another one", x.below(4, 2), STATE);
        due("as it was", x.isBelow(4, 2), 0);
        due("the same once more", x.below(2, 1), 3);
        due("what is so already", x.below(2, 4), 3);
    }

    static void belowBelow() {
        says("what is BELOW one that is BELOW another one is so, too");
        QuasiSums x = ordered(6, 1, 2, 3, 4, 5, 6);
        due("twos", x.below(4, 5), 7);
        due("3 BELOW 6", x.isBelow(3, 6), 1);
        due("most twos", x.below(2, 3), 15);
        due("1 BELOW 6", x.isBelow(1, 6), 1);
        due("one ROW", x.rowOf(-1, 0), 1);
    }

    static void isBelowBad() {
        says("isBelow: BAD");
        QuasiSums x = ordered(3, 1, 3);
        for (int i : new int[] {-1, 0, 4, 33, LEAST_INT, MOST_INT}) {
            due(i + " BELOW 1", x.isBelow(i, 1), BAD);
            due("1 BELOW " + i, x.isBelow(1, i), BAD);
        }
        due("1 BELOW 3", x.isBelow(1, 3), 1);
        due("3 BELOW 1", x.isBelow(3, 1), 0);
        due("3 BELOW 3", x.isBelow(3, 3), 0);
    }

    static void howManyRows() {
        says("Where k is -1, i does not matter");
        int[] many = {1, 1, 2, 6, 24, 120, 720};
        for (int p = 0; p <= 6; p++) {
            QuasiSums x = ordered(p);
            for (int i : new int[] {-1, 0, p, 7, LEAST_INT, MOST_INT}) {
                due("p " + p + ", i " + i, x.rowOf(-1, i), many[p]);
            }
        }
    }

    static void rowOfBad() {
        says("rowOf: BAD: k below -1, i");
        QuasiSums x = ordered(3);
        due("k -2", x.rowOf(-2, 0), BAD);
        due("k least", x.rowOf(LEAST_INT, 0), BAD);
        for (int i : new int[] {-1, 3, LEAST_INT, MOST_INT}) {
            due("i " + i, x.rowOf(0, i), BAD);
            due("i " + i + " ahead of NOT", x.rowOf(6, i), BAD);
        }
        due("the last place", x.rowOf(0, 2), 3);
        due("no THINGS, no place", ordered(0).rowOf(0, 0), BAD);
    }

    static void rowOfNot() {
        says("rowOf: NOT: there are not so many");
        QuasiSums x = ordered(3, 3, 2);
        due("how many", x.rowOf(-1, 0), 3);
        due("the last row", x.rowOf(2, 0), 3);
        due("one more", x.rowOf(3, 0), NOT);
        due("two more", x.rowOf(4, 0), NOT);
        due("most", x.rowOf(MOST_INT, 2), NOT);
    }

    static void rowsInOrder() {
        says("ROWS: in which nothing stands behind what it is BELOW of; numbered in order of their numbers");
        QuasiSums x = ordered(3, 3, 2);
        int[][] rows = {{1, 3, 2}, {3, 1, 2}, {3, 2, 1}};
        for (int k = 0; k < 3; k++) {
            for (int i = 0; i < 3; i++) {
                due("row " + k, x.rowOf(k, i), rows[k][i]);
            }
        }
        QuasiSums six = ordered(6);
        for (int i = 0; i < 6; i++) {
            due("the first of 720", six.rowOf(0, i), i + 1);
            due("the last of 720", six.rowOf(719, i), 6 - i);
        }
    }

    static void marksBad() {
        says("marks: BAD: k below 0, what");
        QuasiSums x = ordered(3);
        for (int k : new int[] {-1, -2, LEAST_INT}) {
            due("k " + k, x.marks(k, 0), BAD);
        }
        for (int what : new int[] {-1, 2, LEAST_INT, MOST_INT}) {
            due("what " + what, x.marks(0, what), BAD);
            due("what " + what + " ahead of NOT", x.marks(6, what), BAD);
        }
    }

    static void marksNot() {
        says("marks: NOT");
        QuasiSums x = ordered(3, 3, 2);
        due("the last row", x.marks(2, 0), 3);
        for (int k : new int[] {3, 4, MOST_INT}) {
            due("row " + k, x.marks(k, 0), NOT);
            due("row " + k, x.marks(k, 1), NOT);
        }
        due("no THINGS, row 1", ordered(0).marks(1, 0), NOT);
    }

    static void descents() {
        says("DESCENTS of a row: places i (1 .. p less 1)");
        due("no THINGS", ordered(0).marks(0, 0), 0);
        due("one THING", ordered(1).marks(0, 0), 0);
        due("1 2", ordered(2).marks(0, 0), 0);
        due("2 1", ordered(2).marks(1, 0), 1);
        QuasiSums x = ordered(6);
        due("none", x.marks(0, 0), 0);
        due("all", x.marks(719, 0), 31);
        due("1 2 3 4 6 5", x.marks(1, 0), 16);
        due("2 1 3 4 5 6", x.marks(120, 0), 1);
    }

    static void peaks() {
        says("PEAKS: places i (2 .. p less 1) at which a greater number stands than at the one ahead and the one behind");
        due("no THINGS", ordered(0).marks(0, 1), 0);
        due("one THING", ordered(1).marks(0, 1), 0);
        due("2 1", ordered(2).marks(1, 1), 0);
        int[] ofThree = {0, 2, 0, 2, 0, 0};
        for (int k = 0; k < 6; k++) {
            due("row " + k + " of 3", ordered(3).marks(k, 1), ofThree[k]);
        }
        QuasiSums x = ordered(6);
        due("1 2 3 4 6 5", x.marks(1, 1), 16);
        due("1 6 2 3 4 5", x.marks(96, 1), 2);
        due("all fall", x.marks(719, 1), 0);
        due("all rise", x.marks(0, 1), 0);
        due("1 3 2 5 4 6", x.marks(26, 1), 2 | 8);
    }

    static void madeBad() {
        says("made: BAD");
        QuasiSums x = ordered(2);
        for (int r : new int[] {-1, 4, LEAST_INT, MOST_INT}) {
            due("r " + r, x.made(r), BAD);
        }
        due("no STEP", x.count(0), 0);
        due("r 3", x.made(3), 2);
        dueNumbers(x, 3, 1, 2);
    }

    static void madeByFew() {
        says("MADE by THE ORDER: the SUM of WEIGHT p that is F of DESCENTS of each of its ROWS");
        QuasiSums x = with(0, 2, 5, 6);
        due("no THINGS", x.made(0), 0);
        dueNumbers(x, 0, 1);
        x.order(1);
        due("one THING", x.made(0), 1);
        dueNumbers(x, 0, 1);
        x.order(6);
        due("six THINGS", x.made(0), 6);
        due("the coarsest", x.of(0, 0), 1);
        due("the finest", x.of(0, 31), 720);
    }

    static void laidBad() {
        says("laid: BAD (a number 1 .. k, k 0 .. 9)");
        for (int k : new int[] {-1, 10, LEAST_INT, MOST_INT}) {
            due("k " + k, ordered(2).laid(k), BAD);
            due("no THINGS, k " + k, ordered(0).laid(k), BAD);
        }
        due("k 9", ordered(2).laid(9), 81);
    }

    static void laidWithFew() {
        says("LAID: how many ways there are to give each THING a number 1 .. k");
        due("no THINGS, k 0", ordered(0).laid(0), 1);
        due("no THINGS, k 9", ordered(0).laid(9), 1);
        due("one THING, k 0", ordered(1).laid(0), 0);
        due("one THING, k 9", ordered(1).laid(9), 9);
        due("six THINGS, k 1", ordered(6).laid(1), 1);
        due("six THINGS, k 9", ordered(6).laid(9), 531441);
    }

    static void laidStrictly() {
        says("where i is BELOW j, that of i is that of j or less, and less, if i is the greater THING");
        due("1 BELOW 2, k 1", ordered(2, 1, 2).laid(1), 1);
        due("1 BELOW 2, k 9", ordered(2, 1, 2).laid(9), 45);
        due("2 BELOW 1, k 1", ordered(2, 2, 1).laid(1), 0);
        due("2 BELOW 1, k 9", ordered(2, 2, 1).laid(9), 36);
        due("1 BELOW 3, 3 BELOW 2, k 3", ordered(3, 1, 3, 3, 2).laid(3), 4);
    }

    public static void main(String[] args) {
        testSentences(OrderEdgesTest.class);
    }
}
