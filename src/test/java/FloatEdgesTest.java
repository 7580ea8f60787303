// The boundary cases of shares and cells (promises 21 to 23): a test for each sentence of ../shared/DOC.md that names one.
public final class FloatEdgesTest extends Bench {
    private static int bits(float x) {
        return Float.floatToRawIntBits(x);
    }

    static void shareOfNothing() {
        says("SHARE: 0, if that is 0");
        QuasiSums x = new QuasiSums();
        for (int n = 0; n <= 6; n++) {
            x.zero(0, n);
            due("of WEIGHT " + n, x.share(0, x.told(0, 1) - 1), 0);
        }
        due("a number 0", with(0, 2, -5, 0).share(0, 1), 0);
    }

    static void shareBad() {
        says("share: BAD: r, c");
        QuasiSums x = with(3, 2, 1, 3);
        for (int r : new int[] {-1, 4, LEAST_INT, MOST_INT}) {
            due("r " + r, x.share(r, 0), BAD);
        }
        for (int c : new int[] {-1, 2, LEAST_INT, MOST_INT}) {
            due("c " + c, x.share(3, c), BAD);
        }
        due("the last one", x.share(3, 1), bits(0.75f));
    }

    static void shareOfTheLeast() {
        says("The least long without its sign is the float of it without its sign");
        due("alone", with(0, 0, LEAST).share(0, 0), bits(-1f));
        QuasiSums x = with(0, 3, LEAST, 0, LEAST, 0);
        due("twice", x.share(0, 0), bits(-0.5f));
        due("0", x.share(0, 1), 0);
        due("with the most", with(0, 2, LEAST, MOST).share(0, 1), bits(0.5f));
    }

    static void shareInFloats() {
        says("all numbers without their signs, told as floats and put together by COMPOSITIONS from 0 on in floats");
        QuasiSums x = with(0, 3, 16777216, 1, -1, 0);
        due("the great one first", x.share(0, 0), bits(1f));
        with(x, 0, 3, 1, -1, 16777216, 0);
        due("the great one last", x.share(0, 2), bits(16777216f / 16777218f));
        due("no float is 16777217", with(0, 2, 16777217, 1).share(0, 0), bits(1f));
    }

    static void warmBad() {
        says("warm: BAD: cell, r, c (CELLS 0 .. 5)");
        QuasiSums x = with(3, 2, 1, 3);
        for (int cell : new int[] {-1, 6, LEAST_INT, MOST_INT}) {
            due("cell " + cell, x.warm(cell, 3, 0), BAD);
        }
        for (int r : new int[] {-1, 4, LEAST_INT, MOST_INT}) {
            due("r " + r, x.warm(0, r, 0), BAD);
        }
        for (int c : new int[] {-1, 2, LEAST_INT, MOST_INT}) {
            due("c " + c, x.warm(0, 3, c), BAD);
        }
        due("cold still", x.warmth(0), 0);
        due("CELL 0", x.warm(0, 3, 0), bits(0.25f));
        due("CELL 5", x.warm(5, 3, 1), bits(0.75f));
        due("both", x.warmth(0), bits(1f));
    }

    static void coldAtFirst() {
        says("CELLS 0 .. 5, floats (0 at first)");
        QuasiSums x = new QuasiSums();
        due("floats", x.warmth(0), 0);
        due("doubles", x.warmth(1), 0);
        for (int cell = 0; cell < 6; cell++) {
            due("CELL " + cell, x.warm(cell, 0, 0), 0);
        }
    }

    static void warmedAndCooled() {
        says("WARMED: the CELL becomes it times 0.5 (float), and SHARE then");
        QuasiSums x = with(0, 2, -1, 0);
        float want = 0f;
        for (int n = 0; n < 30; n++) {
            want = want * 0.5f - 1f;
            due("warmed", x.warm(0, 0, 0), bits(want));
        }
        due("as warm as can be", bits(want), bits(-2f));
        for (int n = 0; n < 152; n++) {
            want = want * 0.5f + 0f;
            due("cooled", x.warm(0, 0, 1), bits(want));
        }
        due("cold", x.warm(0, 0, 1), 0);
    }

    static void warmthVoid() {
        says("warmth: VOID: BAD");
        for (int what : new int[] {-1, 2, LEAST_INT, MOST_INT}) {
            due("what " + what, new QuasiSums().warmth(what), VOID);
        }
    }

    static void warmthOfSmall() {
        says("All CELLS together from 0 on, in floats, and in doubles (each CELL cast)");
        QuasiSums x = with(0, 2, 1, 0);
        x.warm(5, 0, 0);
        x.warm(0, 0, 0);
        for (int n = 0; n < 30; n++) {
            x.warm(0, 0, 1);
        }
        due("floats", x.warmth(0), bits(1f));
        due("doubles", x.warmth(1), Double.doubleToRawLongBits(1d + 1d / (1 << 30)));
        for (int cell = 1; cell < 3; cell++) {
            x.warm(cell, 0, 0);
            for (int n = 0; n < 24; n++) {
                x.warm(cell, 0, 1);
            }
        }
        due("from 0 on", x.warmth(0), bits(1f + 1f / (1 << 23)));
    }

    static void warmthOfMany() {
        says("warmth: All CELLS together (as warm as six can be)");
        QuasiSums x = with(0, 2, 1, 0);
        float cell = 0f;
        for (int n = 0; n < 30; n++) {
            cell = cell * 0.5f + 1f;
            for (int i = 0; i < 6; i++) {
                x.warm(i, 0, 0);
            }
            float all = cell + cell + cell + cell + cell + cell;
            double wide = 0d + cell + cell + cell + cell + cell + cell;
            due("floats", x.warmth(0), bits(all));
            due("doubles", x.warmth(1), Double.doubleToRawLongBits(wide));
        }
        due("floats at the end", x.warmth(0), bits(12f));
    }

    static void warmthOfWholeOnes() {
        says("warmth: as bits (of whole numbers)");
        for (int sign = -1; sign <= 1; sign += 2) {
            QuasiSums x = with(0, 0, sign);
            for (int cell = 0; cell < 6; cell++) {
                x.warm(cell, 0, 0);
                due("floats", x.warmth(0), bits(sign * (cell + 1f)));
                due("doubles", x.warmth(1), Double.doubleToRawLongBits(sign * (cell + 1d)));
            }
        }
    }

    static void warmthInParts() {
        says("warmth: in doubles, as bits (of a part)");
        QuasiSums x = with(0, 2, 1, -2);
        x.warm(4, 0, 0);
        due("a third", x.warmth(1), Double.doubleToRawLongBits(1f / 3f));
        x.warm(2, 0, 1);
        due("a third less two", x.warmth(1), Double.doubleToRawLongBits((double) (-2f / 3f) + (double) (1f / 3f)));
        x.warm(0, 0, 0);
        due("none", x.warmth(1), 0);
        due("none in floats", x.warmth(0), 0);
    }

    public static void main(String[] args) {
        testSentences(FloatEdgesTest.class);
    }
}
