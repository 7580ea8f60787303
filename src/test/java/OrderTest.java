// Promises 14 to 20: the order, its rows, their descents and peaks, what it makes, how it is laid.
public final class OrderTest extends Bench {
    private static void belows() {
        QuasiSums x = new QuasiSums();
        due("order 4", x.order(4), 0);
        due("order 5", x.order(5), 4);
        due("1 below 2", x.below(1, 2), 1);
        due("3 below 4", x.below(3, 4), 2);
        due("again", x.below(3, 4), 2);
        due("2 below 3 tells all", x.below(2, 3), 6);
        due("1 below 4", x.isBelow(1, 4), 1);
        due("4 not below 1", x.isBelow(4, 1), 0);
        due("not below itself", x.isBelow(2, 2), 0);
        due("5 alone", x.isBelow(5, 4), 0);
        due("round about", x.below(4, 1), -5);
        due("both one", x.below(5, 5), -5);
        int[] none = {0, 6, -1, 7, Integer.MAX_VALUE, Integer.MIN_VALUE};
        for (int i : none) {
            due("below", x.below(i, 1), -1);
            due("below", x.below(1, i), -1);
            due("both one and none", x.below(i, i), -1);
            due("isBelow", x.isBelow(i, 1), -1);
            due("isBelow", x.isBelow(1, i), -1);
        }
        due("greater below less", x.below(5, 1), 10);
        due("things", x.count(4), 5);
        due("order 7", x.order(7), -1);
        due("order -1", x.order(-1), -1);
        due("things", x.count(4), 5);
        due("order 6", x.order(6), 5);
        due("none below", x.isBelow(1, 2), 0);
        due("rows of 6", x.rowOf(-1, 0), 720);
        due("order 0", x.order(0), 6);
        due("no thing", x.isBelow(1, 1), -1);
    }

    private static void dueRowOf(QuasiSums x, int k, int... row) {
        for (int i = 0; i < row.length; i++) {
            due("row " + k + " place " + i, x.rowOf(k, i), row[i]);
        }
    }

    private static void rows() {
        QuasiSums x = new QuasiSums();
        x.order(4);
        x.below(2, 1);
        x.below(2, 4);
        due("how many", x.rowOf(-1, -7), 8);
        dueRowOf(x, 0, 2, 1, 3, 4);
        dueRowOf(x, 1, 2, 1, 4, 3);
        dueRowOf(x, 2, 2, 3, 1, 4);
        dueRowOf(x, 3, 2, 3, 4, 1);
        dueRowOf(x, 4, 2, 4, 1, 3);
        dueRowOf(x, 5, 2, 4, 3, 1);
        dueRowOf(x, 6, 3, 2, 1, 4);
        dueRowOf(x, 7, 3, 2, 4, 1);
        due("no row 8", x.rowOf(8, 0), -2);
        due("no row", x.rowOf(Integer.MAX_VALUE, 3), -2);
        due("no place 4", x.rowOf(8, 4), -1);
        due("no place -1", x.rowOf(0, -1), -1);
        due("k -2", x.rowOf(-2, 0), -1);
        due("k least", x.rowOf(Integer.MIN_VALUE, 0), -1);
        due("descents", x.marks(0, 0), 1);
        due("descents", x.marks(1, 0), 1 | 4);
        due("descents", x.marks(5, 0), 2 | 4);
        due("peaks", x.marks(0, 1), 0);
        due("peaks", x.marks(1, 1), 4);
        due("peaks", x.marks(5, 1), 2);
        due("peaks: none at the ends", x.marks(6, 1), 0);
        due("marks 8", x.marks(8, 0), -2);
        due("marks what", x.marks(8, 2), -1);
        due("marks what", x.marks(0, -1), -1);
        due("marks -1", x.marks(-1, 0), -1);
        x.order(0);
        due("empty row", x.rowOf(-1, 0), 1);
        due("empty row has no place", x.rowOf(0, 0), -1);
        due("empty row's descents", x.marks(0, 0), 0);
        due("empty row's peaks", x.marks(0, 1), 0);
        due("one empty row", x.marks(1, 1), -2);
        x.order(6);
        dueRowOf(x, 719, 6, 5, 4, 3, 2, 1);
        due("all fall", x.marks(719, 0), 31);
        due("no peak", x.marks(719, 1), 0);
        dueRowOf(x, 600, 6, 1, 2, 3, 4, 5);
    }

    private static void madeAndLaid() {
        QuasiSums x = new QuasiSums();
        due("made by none", x.made(1), 0);
        due("made by none", x.of(1, 0), 1);
        due("laid by none", x.laid(0), 1);
        due("laid by none", x.laid(9), 1);
        x.order(3);
        due("made", x.made(0), 3);
        long[] free = {1, 3, 3, 6};
        long[] inF = {1, 2, 2, 1};
        for (int c = 0; c < 4; c++) {
            due("made number", x.of(0, c), free[c]);
            due("made F number", x.inF(0, c), inF[c]);
        }
        due("laid freely", x.laid(9), 729);
        due("laid 0", x.laid(0), 0);
        x.below(1, 2);
        due("laid weakly", x.laid(3), 6 * 3);
        x.below(3, 2);
        // 1 or less than 2's number, 3 strictly less: 1: 0, 2: 2 * 1, 3: 3 * 2.
        due("laid strictly", x.laid(3), 8);
        due("made", x.made(0), 3);
        // Rows 1 3 2 and 3 1 2.
        due("made F", x.inF(0, 0), 0);
        due("made F", x.inF(0, 1), 1);
        due("made F", x.inF(0, 2), 1);
        due("made F", x.inF(0, 3), 0);
        due("laid 10", x.laid(10), -1);
        due("laid -1", x.laid(-1), -1);
        due("made 4", x.made(4), -1);
        due("made -1", x.made(-1), -1);
        due("made is a step", x.count(0), 3);
        x.order(6);
        due("most", x.laid(9), 531441);
        x.order(2);
        x.below(2, 1);
        due("strict two", x.laid(9), 36);
        x.order(2);
        x.below(1, 2);
        due("weak two", x.laid(9), 45);
    }

    private static int[][] belowOf(QuasiSums x, int p) {
        int[][] is = new int[p + 1][p + 1];
        for (int i = 1; i <= p; i++) {
            for (int j = 1; j <= p; j++) {
                is[i][j] = x.isBelow(i, j);
            }
        }
        return is;
    }

    private static int layings(int[][] is, int p, int k, int[] given, int next) {
        if (next > p) {
            return 1;
        }
        int ways = 0;
        for (int v = 1; v <= k; v++) {
            given[next] = v;
            boolean fits = true;
            for (int o = 1; o < next; o++) {
                // o is the lesser thing: it may be laid as one above it, next must be less than one above it.
                fits &= is[o][next] == 0 || given[o] <= v;
                fits &= is[next][o] == 0 || v < given[o];
            }
            ways += fits ? layings(is, p, k, given, next + 1) : 0;
        }
        return ways;
    }

    private static void laidByTrying() {
        java.util.Random random = new java.util.Random(11);
        for (int run = 0; run < 300; run++) {
            QuasiSums x = new QuasiSums();
            int p = random.nextInt(7);
            int k = random.nextInt(6);
            x.order(p);
            for (int n = random.nextInt(8); n > 0 && p > 0; n--) {
                x.below(1 + random.nextInt(p), 1 + random.nextInt(p));
            }
            int want = layings(belowOf(x, p), p, k, new int[p + 1], 1);
            due("laid of " + p + " with " + k, x.laid(k), want);
            x.made(0);
            due("made counted of " + p + " with " + k, x.counts(0, k), want);
        }
    }

    public static void main(String[] args) {
        belows();
        rows();
        madeAndLaid();
        laidByTrying();
        finish();
    }
}
