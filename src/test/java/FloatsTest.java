// Promises 21 to 23: shares and cells in floats, told as bits.
public final class FloatsTest extends Bench {
    private static float shareOf(long[] numbers, int c) {
        float all = 0f;
        for (long number : numbers) {
            all += Math.abs((float) number);
        }
        return all == 0f ? 0f : (float) numbers[c] / all;
    }

    private static void shares() {
        QuasiSums x = new QuasiSums();
        due("nothing", x.share(0, 0), 0);
        long[][] rows = {
            {1, -3, 5, 0}, {Long.MIN_VALUE, Long.MAX_VALUE, 1, -1}, {16777217, 16777219, -33554433, 7},
            {0, 0, 0, 0}, {0, Long.MIN_VALUE, 0, 0}, {1, 16777216, 1, 1}, {3, 1, 16777216, -16777216}};
        x.zero(0, 3);
        for (long[] numbers : rows) {
            for (int c = 0; c < 4; c++) {
                x.put(0, c, numbers[c]);
            }
            for (int c = 0; c < 4; c++) {
                due("share", x.share(0, c), Float.floatToRawIntBits(shareOf(numbers, c)));
            }
        }
        due("share c 4", x.share(0, 4), -1);
        due("share c -1", x.share(0, -1), -1);
        due("share r 4", x.share(4, 0), -1);
        due("share r -1", x.share(-1, 0), -1);
    }

    private static void warming() {
        QuasiSums x = new QuasiSums();
        x.zero(0, 3);
        x.put(0, 0, 3);
        x.put(0, 1, -4);
        float want = 0f;
        for (int n = 0; n < 40; n++) {
            want = want * 0.5f + (n % 3 == 0 ? 3f / 7f : n % 3 == 1 ? -4f / 7f : 0f);
            due("warm", x.warm(5, 0, n % 3), Float.floatToRawIntBits(want));
        }
        due("warm cell 6", x.warm(6, 0, 0), -1);
        due("warm cell -1", x.warm(-1, 0, 0), -1);
        due("warm r 4", x.warm(0, 4, 0), -1);
        due("warm r -1", x.warm(0, -1, 0), -1);
        due("warm c 4", x.warm(0, 0, 4), -1);
        due("warm c -1", x.warm(0, 0, -1), -1);
        due("refused: cold", x.warmth(0), Float.floatToRawIntBits(want));
    }

    // A cell that cools down goes through the floats that have lost their leading one, and ends at 0.
    private static void cooling(int c) {
        QuasiSums x = new QuasiSums();
        x.zero(0, 3);
        x.put(0, 0, 3);
        x.put(0, 1, -4);
        x.warm(2, 0, c);
        float want = c == 0 ? 3f / 7f : -4f / 7f;
        for (int n = 0; n < 160; n++) {
            want = want * 0.5f + 0f;
            due("cooled " + n, x.warm(2, 0, 2), Float.floatToRawIntBits(want));
            due("cooled float", x.warmth(0), Float.floatToRawIntBits(0f + want));
            due("cooled double", x.warmth(1), Double.doubleToRawLongBits(0d + want));
        }
        due("cold", x.warm(2, 0, 2), 0);
    }

    private static void together() {
        QuasiSums x = new QuasiSums();
        float[] cells = new float[6];
        java.util.Random random = new java.util.Random(5);
        for (int n = 0; n < 80; n++) {
            long[] numbers = {random.nextLong() >> random.nextInt(64), random.nextLong() >> random.nextInt(64)};
            x.zero(1, 2);
            x.put(1, 0, numbers[0]);
            x.put(1, 1, numbers[1]);
            int cell = random.nextInt(6);
            int c = random.nextInt(2);
            cells[cell] = cells[cell] * 0.5f + shareOf(numbers, c);
            x.warm(cell, 1, c);
            float all = 0f;
            double allWide = 0d;
            for (float one : cells) {
                all += one;
                allWide += one;
            }
            due("floats", x.warmth(0), Float.floatToRawIntBits(all));
            due("doubles", x.warmth(1), Double.doubleToRawLongBits(allWide));
        }
        QuasiSums whole = new QuasiSums();
        whole.put(0, 0, -9);
        for (int cell = 0; cell < 6; cell++) {
            due("whole", whole.warm(cell, 0, 0), Float.floatToRawIntBits(-1f));
            due("whole floats", whole.warmth(0), Float.floatToRawIntBits(-1f - cell));
            due("whole doubles", whole.warmth(1), Double.doubleToRawLongBits(-1d - cell));
        }
        due("warmth 2", x.warmth(2), Long.MIN_VALUE);
        due("warmth -1", x.warmth(-1), Long.MIN_VALUE);
    }

    public static void main(String[] args) {
        shares();
        warming();
        cooling(0);
        cooling(1);
        together();
        finish();
    }
}
