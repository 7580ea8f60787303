import java.util.ArrayList;
import java.util.Arrays;

/** A bench for quasi-symmetric sums; ../shared/DOC.md says what each call answers. */
public final class QuasiSums {
    public static final int BAD = -1, NOT = -2, FULL = -3, STATE = -5, OVER = -9;
    public static final long VOID = Long.MIN_VALUE;

    private static final int MISSING = -11, OUTSIDE = -13, SIZE_BELOW = -14, UNFIT = -16;
    private static final int HEAVIEST = 6, REGISTERS = 4, CELLS = 6, RACKS = 3, PLACES = 4, ROWS = 3;
    private static final int MOST_INTS = 40, MOST_BYTES = 80, MOST_STEPS = 8;
    private static final int MOST_LETTERS = 20, MOST_LAID = 9;
    private static final int SUM_KIND = 0, ROW_KIND = 1, RACK_OF_BOTH = 2;
    private static final int FAULT_SORT = 1, TERM_SORT = 2, UNLIKE_SORT = 3, OVER_SORT = 4;

    private Sum[] registers = new Sum[REGISTERS];
    private Order things = new Order(0);
    private float[] cells = new float[CELLS];
    private Item[] racks = new Item[RACKS * PLACES];
    private final Row[] rows = new Row[ROWS];
    private final int[] tape = new int[MOST_BYTES];
    private int tapeLength = 0;
    private Trouble trouble = null;
    private final ArrayList<Step> steps = new ArrayList<Step>();
    private Image kept = null;

    public QuasiSums() {
        for (int r = 0; r < registers.length; r++) {
            registers[r] = new Sum(0);
        }
    }

    // ---- sums ----

    public int zero(int r, int n) {
        if (!within(r, REGISTERS) || !within(n, HEAVIEST + 1)) {
            return BAD;
        }
        int weight = registers[r].weight;
        become(r, new Sum(n));
        return weight;
    }

    public int put(int r, int c, long v) {
        if (!isNumber(r, c)) {
            return BAD;
        }
        become(r, registers[r].withNumber(c, v));
        return 1;
    }

    public long of(int r, int c) {
        return isNumber(r, c) ? registers[r].at(c) : VOID;
    }

    public int fundamental(int r, int c, long v) {
        if (!isNumber(r, c)) {
            return BAD;
        }
        Longs longs = new Longs();
        Sum next = registers[r].withFundamental(c, v, longs);
        return settle(r, next, longs) == OVER ? OVER : 1;
    }

    public long inF(int r, int c) {
        if (!isNumber(r, c)) {
            return VOID;
        }
        Longs longs = new Longs();
        long number = registers[r].fundamentalNumber(c, longs);
        return answer(number, longs);
    }

    public int told(int r, int what) {
        if (!within(r, REGISTERS) || !within(what, 3)) {
            return BAD;
        }
        Sum sum = registers[r];
        if (what == 0) {
            return sum.weight;
        }
        return what == 1 ? sum.numbers.length : sum.notZero();
    }

    public int composition(int n, int c, int what) {
        if (!within(n, HEAVIEST + 1) || !within(c, Bits.howMany(n))) {
            return BAD;
        }
        if (what >= 10) {
            int i = what - 10;
            return i < Bits.lengthOf(n, c) ? Bits.numberAt(n, c, i) : NOT;
        }
        switch (what) {
            case 0: return Bits.lengthOf(n, c);
            case 1: return Bits.turned(n, c);
            case 2: return Bits.rest(n, c);
            case 3: return Bits.howManyFiner(n, c);
            default: return BAD;
        }
    }

    public int sum(int r, int s, int t) {
        if (!within(r, REGISTERS) || !within(s, REGISTERS) || !within(t, REGISTERS)) {
            return BAD;
        }
        if (registers[s].weight != registers[t].weight) {
            return STATE;
        }
        Longs longs = new Longs();
        return settle(r, registers[s].plus(registers[t], longs), longs);
    }

    public int multiply(int r, int s, int t) {
        if (!within(r, REGISTERS) || !within(s, REGISTERS) || !within(t, REGISTERS)) {
            return BAD;
        }
        if (registers[s].weight + registers[t].weight > HEAVIEST) {
            return STATE;
        }
        Longs longs = new Longs();
        return settle(r, registers[s].times(registers[t], longs), longs);
    }

    public int antipode(int r, int s) {
        if (!within(r, REGISTERS) || !within(s, REGISTERS)) {
            return BAD;
        }
        Longs longs = new Longs();
        return settle(r, registers[s].antipodal(longs), longs);
    }

    public long cut(int r, int a, int c, int d) {
        if (!within(r, REGISTERS) || !within(a, registers[r].weight + 1)) {
            return VOID;
        }
        int b = registers[r].weight - a;
        if (!within(c, Bits.howMany(a)) || !within(d, Bits.howMany(b))) {
            return VOID;
        }
        return registers[r].at(Bits.joined(a, c, b, d));
    }

    public long counts(int r, int k) {
        if (!within(r, REGISTERS) || !within(k, MOST_LETTERS + 1)) {
            return VOID;
        }
        Longs longs = new Longs();
        long number = registers[r].countsWith(k, longs);
        return answer(number, longs);
    }

    // ---- the order ----

    public int order(int p) {
        if (!within(p, HEAVIEST + 1)) {
            return BAD;
        }
        int before = things.size;
        things = new Order(p);
        return before;
    }

    public int below(int i, int j) {
        if (!things.has(i) || !things.has(j)) {
            return BAD;
        }
        if (i == j || things.stands(j, i)) {
            return STATE;
        }
        things = things.withBelow(i, j);
        return things.pairs();
    }

    public int isBelow(int i, int j) {
        if (!things.has(i) || !things.has(j)) {
            return BAD;
        }
        return things.stands(i, j) ? 1 : 0;
    }

    public int rowOf(int k, int i) {
        if (k == -1) {
            return things.howManyRows();
        }
        if (k < -1 || !within(i, things.size)) {
            return BAD;
        }
        if (k >= things.howManyRows()) {
            return NOT;
        }
        int[] row = new int[things.size];
        things.tellRow(k, row);
        return row[i];
    }

    public int marks(int k, int what) {
        if (k < 0 || !within(what, 2)) {
            return BAD;
        }
        if (k >= things.howManyRows()) {
            return NOT;
        }
        int[] row = new int[things.size];
        things.tellRow(k, row);
        return what == 0 ? Order.descents(row) : Order.peaks(row);
    }

    public int made(int r) {
        if (!within(r, REGISTERS)) {
            return BAD;
        }
        become(r, things.makes());
        return things.size;
    }

    public int laid(int k) {
        if (!within(k, MOST_LAID + 1)) {
            return BAD;
        }
        // Each laying reads off just one row, rising weakly and strictly at its descents:
        // so the layings are what the order makes, counted with k letters.
        return (int) things.makes().countsWith(k, new Longs());
    }

    // ---- floats ----

    public int share(int r, int c) {
        return isNumber(r, c) ? floatBits(registers[r].shareOf(c)) : BAD;
    }

    public int warm(int cell, int r, int c) {
        if (!within(cell, CELLS) || !isNumber(r, c)) {
            return BAD;
        }
        cells[cell] = cells[cell] * 0.5f + registers[r].shareOf(c);
        return floatBits(cells[cell]);
    }

    public long warmth(int what) {
        if (what == 0) {
            return floatBits(allInFloats());
        }
        return what == 1 ? doubleBits(allInDoubles()) : VOID;
    }

    private float allInFloats() {
        float all = 0f;
        for (int i = 0; i < cells.length; i++) {
            all = all + cells[i];
        }
        return all;
    }

    private double allInDoubles() {
        double all = 0d;
        for (int i = 0; i < cells.length; i++) {
            all = all + (double) cells[i];
        }
        return all;
    }

    /** By hand, as no library tells them; no cell and no share is ever the zero below zero. */
    private static int floatBits(float x) {
        int sign = x < 0f ? 1 << 31 : 0;
        float left = x < 0f ? -x : x;
        int exponent = 127;
        for (int i = 0; i < 128 && left >= 2f; i++) {
            left = left * 0.5f;
            exponent++;
        }
        for (int i = 0; i < 126 && left < 1f; i++) {
            left = left * 2f;
            exponent--;
        }
        if (left < 1f) {
            return sign | (int) (left * 8388608f);
        }
        return sign | exponent << 23 | (int) ((left - 1f) * 8388608f);
    }

    private static long doubleBits(double x) {
        long sign = x < 0d ? 1L << 63 : 0L;
        double left = x < 0d ? -x : x;
        long exponent = 1023;
        for (int i = 0; i < 1024 && left >= 2d; i++) {
            left = left * 0.5d;
            exponent++;
        }
        for (int i = 0; i < 1022 && left < 1d; i++) {
            left = left * 2d;
            exponent--;
        }
        if (left < 1d) {
            return sign | (long) (left * 4503599627370496d);
        }
        return sign | exponent << 52 | (long) ((left - 1d) * 4503599627370496d);
    }

    // ---- racks and rows ----

    public int store(int rack, int i, int kind, int k) {
        if (!within(rack, RACKS) || !within(kind, 2) || !within(k, kind == SUM_KIND ? REGISTERS : ROWS)) {
            return BAD;
        }
        if (kind == ROW_KIND && rows[k] == null) {
            return MISSING;
        }
        if (!within(i, PLACES)) {
            return OUTSIDE;
        }
        if (rack != RACK_OF_BOTH && rack != kind) {
            return UNFIT;
        }
        if (kind == SUM_KIND) {
            racks[rack * PLACES + i] = registers[k];
        } else {
            racks[rack * PLACES + i] = new Row(rows[k].ints.clone());
        }
        return 1;
    }

    public int fetch(int rack, int i, int k) {
        int kind = holds(rack, i);
        if (kind == SUM_KIND) {
            return fetchSum(racks[rack * PLACES + i], k);
        }
        return kind == ROW_KIND ? fetchRow(racks[rack * PLACES + i], k) : kind;
    }

    private int fetchSum(Item item, int k) {
        if (!within(k, REGISTERS)) {
            return BAD;
        }
        if (item instanceof Sum) {
            become(k, (Sum) item);
        }
        return SUM_KIND;
    }

    private int fetchRow(Item item, int k) {
        if (!within(k, ROWS)) {
            return BAD;
        }
        if (item instanceof Row) {
            rows[k] = new Row(((Row) item).ints.clone());
        }
        return ROW_KIND;
    }

    public int holds(int rack, int i) {
        if (!within(rack, RACKS)) {
            return BAD;
        }
        if (!within(i, PLACES)) {
            return OUTSIDE;
        }
        Item item = racks[rack * PLACES + i];
        if (item == null) {
            return NOT;
        }
        return item instanceof Sum ? SUM_KIND : ROW_KIND;
    }

    public int row(int row, int n) {
        if (!within(row, ROWS) || n > MOST_INTS) {
            return BAD;
        }
        if (n < -1) {
            return SIZE_BELOW;
        }
        rows[row] = n == -1 ? null : new Row(new int[n]);
        return 1;
    }

    public int lay(int row, int i, int v) {
        if (!within(row, ROWS)) {
            return BAD;
        }
        if (rows[row] == null) {
            return MISSING;
        }
        int[] ints = rows[row].ints;
        if (!within(i, ints.length)) {
            return OUTSIDE;
        }
        ints[i] = v;
        return 1;
    }

    public long get(int row, int i) {
        if (!within(row, ROWS) || rows[row] == null) {
            return VOID;
        }
        int[] ints = rows[row].ints;
        return within(i, ints.length) ? ints[i] : VOID;
    }

    public int copy(int row, int i, int other, int j, int n) {
        if (!within(row, ROWS) || !within(other, ROWS)) {
            return BAD;
        }
        if (rows[row] == null || rows[other] == null) {
            return MISSING;
        }
        int[] from = rows[row].ints;
        int[] to = rows[other].ints;
        if (n < 0 || i < 0 || j < 0 || i > from.length - n || j > to.length - n) {
            return OUTSIDE;
        }
        System.arraycopy(from, i, to, j, n);
        return n;
    }

    public int film(int row, int k) {
        if (!within(row, ROWS) || k < 0) {
            return BAD;
        }
        if (k >= things.howManyRows()) {
            return NOT;
        }
        int[] ints = new int[things.size];
        things.tellRow(k, ints);
        rows[row] = new Row(ints);
        return things.size;
    }

    public int judge(int row) {
        if (!within(row, ROWS)) {
            return BAD;
        }
        if (rows[row] == null) {
            return MISSING;
        }
        int[] ints = rows[row].ints;
        int wrong = things.firstWrong(ints);
        if (wrong >= 0) {
            return wrong;
        }
        return ints.length < things.size ? 100 + ints.length : NOT;
    }

    // ---- steps, texts, reasons, the image ----

    public int back() {
        if (steps.isEmpty()) {
            return STATE;
        }
        Step latest = steps.remove(steps.size() - 1);
        registers[latest.register] = latest.before;
        return steps.size();
    }

    public int feed(int letter) {
        if (letter < 32 || letter > 126) {
            return BAD;
        }
        if (tapeLength >= tape.length) {
            return FULL;
        }
        tape[tapeLength] = letter;
        tapeLength++;
        return tapeLength;
    }

    public int wipe() {
        int before = tapeLength;
        tapeLength = 0;
        return before;
    }

    public int read(int r) {
        if (!within(r, REGISTERS)) {
            return BAD;
        }
        Reader reader = new Reader(tape, tapeLength);
        tapeLength = 0;
        if (!reader.readText()) {
            return refuseTerm(reader.term, FAULT_SORT, reader.at, -100 - reader.at);
        }
        return addTerms(r, reader.terms);
    }

    private int addTerms(int r, ArrayList<Term> terms) {
        int weight = terms.isEmpty() ? 0 : terms.get(0).weight;
        Sum all = new Sum(weight);
        Longs longs = new Longs();
        for (int i = 0; i < terms.size(); i++) {
            Term term = terms.get(i);
            if (term.weight > HEAVIEST || term.weight != weight) {
                return refuseTerm(i, UNLIKE_SORT, term.weight, STATE);
            }
            term.comesTo(all, longs);
            if (longs.over) {
                return refuseTerm(i, OVER_SORT, longs.where, OVER);
            }
        }
        become(r, all);
        return weight;
    }

    private int refuseTerm(int term, int sort, int number, int refusal) {
        trouble = new Trouble(TERM_SORT, term, new Trouble(sort, number, null));
        return refusal;
    }

    public int why(int i, int what) {
        if (i < 0 || !within(what, 2)) {
            return BAD;
        }
        Trouble told = trouble;
        for (int k = 0; k < i && told != null; k++) {
            told = told.cause;
        }
        if (told == null) {
            return NOT;
        }
        return what == 0 ? told.sort : told.number;
    }

    public int image() {
        kept = new Image(registers.clone(), things, cells.clone(), racks.clone());
        return allWeights();
    }

    public int restore() {
        if (kept == null) {
            return STATE;
        }
        registers = kept.registers.clone();
        things = kept.things;
        cells = kept.cells.clone();
        racks = kept.racks.clone();
        steps.clear();
        return allWeights();
    }

    public int count(int what) {
        switch (what) {
            case 0: return steps.size();
            case 1: return tapeLength;
            case 2: return Trouble.howMany(trouble);
            case 3: return howManyHeld();
            case 4: return things.size;
            case 5: return howManyRowsHeld();
            default: return BAD;
        }
    }

    private int howManyHeld() {
        int held = 0;
        for (int i = 0; i < racks.length; i++) {
            held += racks[i] == null ? 0 : 1;
        }
        return held;
    }

    private int howManyRowsHeld() {
        int held = 0;
        for (int i = 0; i < rows.length; i++) {
            held += rows[i] == null ? 0 : 1;
        }
        return held;
    }

    private int allWeights() {
        int all = 0;
        for (int r = 0; r < registers.length; r++) {
            all += registers[r].weight;
        }
        return all;
    }

    private static boolean within(int number, int bound) {
        return number >= 0 && number < bound;
    }

    private boolean isNumber(int r, int c) {
        return within(r, REGISTERS) && within(c, registers[r].numbers.length);
    }

    private void become(int r, Sum next) {
        // What leaves a register as it was made nothing otherwise: it is no step.
        if (registers[r].isLike(next)) {
            return;
        }
        steps.add(new Step(r, registers[r]));
        if (steps.size() > MOST_STEPS) {
            steps.remove(0);
        }
        registers[r] = next;
    }

    private int settle(int r, Sum next, Longs longs) {
        if (longs.over) {
            tellOver(longs);
            return OVER;
        }
        become(r, next);
        return next.weight;
    }

    private long answer(long number, Longs longs) {
        if (longs.over) {
            tellOver(longs);
            return VOID;
        }
        return number;
    }

    private void tellOver(Longs longs) {
        trouble = new Trouble(OVER_SORT, longs.where, null);
    }

    /** Compositions of n as bits. */
    private static final class Bits {
        static int howMany(int n) {
            return n < 1 ? 1 : 1 << (n - 1);
        }

        static int lengthOf(int n, int c) {
            return n < 1 ? 0 : 1 + Integer.bitCount(c);
        }

        static int firstNumber(int n, int c) {
            for (int i = 1; i < n; i++) {
                if ((c >> (i - 1) & 1) == 1) {
                    return i;
                }
            }
            return n;
        }

        static int numberAt(int n, int c, int i) {
            int left = n;
            int bits = c;
            for (int k = 0; k < i; k++) {
                int first = firstNumber(left, bits);
                left -= first;
                bits >>= first;
            }
            return firstNumber(left, bits);
        }

        static int turned(int n, int c) {
            int turned = 0;
            for (int i = 1; i < n; i++) {
                if ((c >> (i - 1) & 1) == 1) {
                    turned |= 1 << (n - i - 1);
                }
            }
            return turned;
        }

        static int rest(int n, int c) {
            return howMany(n) - 1 - c;
        }

        static int howManyFiner(int n, int c) {
            return 1 << Integer.bitCount(rest(n, c));
        }

        static boolean isFiner(int fine, int coarse) {
            return (fine & coarse) == coarse;
        }

        static int joined(int a, int c, int b, int d) {
            if (a == 0) {
                return d;
            }
            return b == 0 ? c : c | 1 << (a - 1) | d << a;
        }

        static long waysToPick(int length, int k) {
            long ways = 1;
            for (int i = 0; i < length; i++) {
                ways = ways * (k - i) / (i + 1);
            }
            return ways;
        }
    }

    /** Sums and products that must be longs; keeps where one first was not. */
    private static final class Longs {
        private boolean over = false;
        private int where = 0;

        private void tooGreat(int at) {
            if (!over) {
                over = true;
                where = at;
            }
        }

        long plus(long a, long b, int at) {
            long sum = a + b;
            if (((a ^ sum) & (b ^ sum)) < 0) {
                tooGreat(at);
            }
            return sum;
        }

        long times(long a, long b, int at) {
            if (a == -1) {
                return otherSign(b, at);
            }
            long product = a * b;
            if (a != 0 && product / a != b) {
                tooGreat(at);
            }
            return product;
        }

        long otherSign(long a, int at) {
            if (a == Long.MIN_VALUE) {
                tooGreat(at);
            }
            return -a;
        }
    }

    /** What a place of a rack can hold. */
    private abstract static class Item {
    }

    private static final class Row extends Item {
        private final int[] ints;

        Row(int[] ints) {
            this.ints = ints;
        }
    }

    /** Nothing changes a sum once a register holds it: so racks, steps and the image may hold the same one. */
    private static final class Sum extends Item {
        private final int weight;
        private final long[] numbers;

        Sum(int weight) {
            // A text may tell a first term that is too heavy, which is refused behind this.
            this.weight = Math.min(Math.max(weight, 0), HEAVIEST);
            this.numbers = new long[Bits.howMany(this.weight)];
        }

        long at(int c) {
            return within(c, numbers.length) ? numbers[c] : 0;
        }

        /** The weight is looked at, too: of weight 0 and of weight 1 there is one number each. */
        boolean isLike(Sum other) {
            if (weight != other.weight || numbers.length != other.numbers.length) {
                return false;
            }
            for (int c = 0; c < numbers.length; c++) {
                if (numbers[c] != other.numbers[c]) {
                    return false;
                }
            }
            return true;
        }

        private void comes(int c, long v, Longs longs) {
            if (within(c, numbers.length)) {
                numbers[c] = longs.plus(numbers[c], v, c);
            }
        }

        private void comesToFiner(int c, long v, Longs longs) {
            for (int e = 0; e < numbers.length; e++) {
                if (Bits.isFiner(e, c)) {
                    comes(e, v, longs);
                }
            }
        }

        private Sum twin() {
            Sum twin = new Sum(weight);
            for (int c = 0; c < numbers.length && c < twin.numbers.length; c++) {
                twin.numbers[c] = numbers[c];
            }
            return twin;
        }

        Sum withNumber(int c, long v) {
            Sum next = twin();
            if (within(c, next.numbers.length)) {
                next.numbers[c] = v;
            }
            return next;
        }

        Sum withFundamental(int c, long v, Longs longs) {
            Sum next = twin();
            next.comesToFiner(c, v, longs);
            return next;
        }

        long fundamentalNumber(int c, Longs longs) {
            int length = Bits.lengthOf(weight, c);
            long all = 0;
            for (int b = 0; b < numbers.length; b++) {
                if (Bits.isFiner(c, b)) {
                    boolean odd = (length - Bits.lengthOf(weight, b)) % 2 != 0;
                    long number = odd ? longs.otherSign(numbers[b], c) : numbers[b];
                    all = longs.plus(all, number, c);
                }
            }
            return all;
        }

        int notZero() {
            int found = 0;
            for (int c = 0; c < numbers.length; c++) {
                found += numbers[c] == 0 ? 0 : 1;
            }
            return found;
        }

        Sum plus(Sum other, Longs longs) {
            Sum both = twin();
            for (int c = 0; c < other.numbers.length; c++) {
                both.comes(c, other.numbers[c], longs);
            }
            return both;
        }

        Sum times(Sum other, Longs longs) {
            Sum product = new Sum(weight + other.weight);
            int[] ways = new int[product.numbers.length];
            for (int c = 0; c < numbers.length; c++) {
                for (int d = 0; d < other.numbers.length; d++) {
                    long both = longs.times(numbers[c], other.numbers[d], 100 + c);
                    Arrays.fill(ways, 0);
                    shuffle(c, weight, d, other.weight, 0, 0, ways);
                    for (int e = 0; e < ways.length; e++) {
                        product.comes(e, longs.times(both, ways[e], e), longs);
                    }
                }
            }
            return product;
        }

        /** Counts in ways each e to which c of m and d of n go on, behind what is taken of e. */
        private static void shuffle(int c, int m, int d, int n, int e, int taken, int[] ways) {
            if (taken > HEAVIEST || !within(e, ways.length)) {
                return;
            }
            if (m <= 0 && n <= 0) {
                ways[e]++;
                return;
            }
            int ended = taken > 0 ? e | 1 << (taken - 1) : e;
            int f = Bits.firstNumber(m, c);
            int g = Bits.firstNumber(n, d);
            if (m > 0) {
                shuffle(c >> f, m - f, d, n, ended, taken + f, ways);
            }
            if (n > 0) {
                shuffle(c, m, d >> g, n - g, ended, taken + g, ways);
            }
            if (m > 0 && n > 0) {
                shuffle(c >> f, m - f, d >> g, n - g, ended, taken + f + g, ways);
            }
        }

        Sum antipodal(Longs longs) {
            Sum antipode = new Sum(weight);
            for (int c = 0; c < numbers.length; c++) {
                boolean odd = Bits.lengthOf(weight, c) % 2 != 0;
                long number = odd ? longs.otherSign(numbers[c], c) : numbers[c];
                int turned = Bits.turned(weight, c);
                for (int e = 0; e < numbers.length; e++) {
                    if (Bits.isFiner(turned, e)) {
                        antipode.comes(e, number, longs);
                    }
                }
            }
            return antipode;
        }

        long countsWith(int k, Longs longs) {
            long all = 0;
            for (int c = 0; c < numbers.length; c++) {
                long ways = Bits.waysToPick(Bits.lengthOf(weight, c), k);
                all = longs.plus(all, longs.times(numbers[c], ways, c), c);
            }
            return all;
        }

        float shareOf(int c) {
            float all = 0f;
            for (int b = 0; b < numbers.length; b++) {
                float number = (float) numbers[b];
                all = all + (number < 0f ? -number : number);
            }
            return all == 0f ? 0f : (float) at(c) / all;
        }
    }

    /** An order never changes: telling below makes another one, so that the image may hold it. */
    private static final class Order {
        private final int size;
        /** At j the things below j, thing i as bit i less 1. */
        private final int[] lower;
        /** At each set of things, told as bits: in how many ways a row goes on behind them. */
        private final int[] endings;
        /** What it makes, once that has been asked for. */
        private Sum itsSum = null;

        Order(int size) {
            this(size, new int[HEAVIEST + 1]);
        }

        private Order(int size, int[] lower) {
            this.size = Math.min(Math.max(size, 0), HEAVIEST);
            this.lower = lower;
            this.endings = new int[1 << this.size];
            countEndings();
        }

        private void countEndings() {
            int last = endings.length - 1;
            for (int told = last; told >= 0; told--) {
                int ways = told == last ? 1 : 0;
                for (int v = 1; v <= size; v++) {
                    ways += waysBehind(told, v);
                }
                endings[told] = ways;
            }
        }

        private int waysBehind(int told, int v) {
            int next = told | 1 << (v - 1);
            return canCome(v, told) && within(next, endings.length) ? endings[next] : 0;
        }

        boolean has(int i) {
            return i >= 1 && i <= size && i < lower.length;
        }

        /** Whether i stands below j. */
        boolean stands(int i, int j) {
            return has(i) && has(j) && (lower[j] >> (i - 1) & 1) == 1;
        }

        boolean canCome(int v, int told) {
            return has(v) && (told >> (v - 1) & 1) == 0 && (lower[v] & ~told) == 0;
        }

        Order withBelow(int i, int j) {
            int[] next = lower.clone();
            if (has(i)) {
                int low = lower[i] | 1 << (i - 1);
                for (int v = 1; v <= size && v < next.length; v++) {
                    if (v == j || stands(j, v)) {
                        next[v] |= low;
                    }
                }
            }
            return new Order(size, next);
        }

        int pairs() {
            int pairs = 0;
            for (int v = 0; v < lower.length; v++) {
                pairs += Integer.bitCount(lower[v]);
            }
            return pairs;
        }

        int howManyRows() {
            return endings.length > 0 ? endings[0] : 0;
        }

        void tellRow(int k, int[] row) {
            int told = 0;
            int left = k;
            for (int i = 0; i < row.length; i++) {
                for (int v = 1; v <= size; v++) {
                    int ways = waysBehind(told, v);
                    if (left < ways) {
                        row[i] = v;
                        told |= 1 << (v - 1);
                        break;
                    }
                    left -= ways;
                }
            }
        }

        static int descents(int[] row) {
            int bits = 0;
            for (int i = 1; i < row.length; i++) {
                if (row[i - 1] > row[i]) {
                    bits |= 1 << (i - 1);
                }
            }
            return bits;
        }

        static int peaks(int[] row) {
            int bits = 0;
            for (int i = 2; i < row.length; i++) {
                if (row[i - 1] > row[i - 2] && row[i - 1] > row[i]) {
                    bits |= 1 << (i - 1);
                }
            }
            return bits;
        }

        Sum makes() {
            if (itsSum == null) {
                long[] times = new long[Bits.howMany(size)];
                countDescents(this, 0, 0, new int[size], times);
                Sum all = new Sum(size);
                Longs longs = new Longs();
                for (int c = 0; c < times.length; c++) {
                    all.comesToFiner(c, times[c], longs);
                }
                itsSum = all;
            }
            return itsSum;
        }

        /** Counts in times the descents of each row that begins so; told has the things of its first places, as bits. */
        private static void countDescents(Order order, int told, int place, int[] row, long[] times) {
            if (place >= row.length) {
                int c = descents(row);
                if (within(c, times.length)) {
                    times[c]++;
                }
                return;
            }
            for (int v = 1; v <= order.size; v++) {
                if (order.canCome(v, told)) {
                    row[place] = v;
                    countDescents(order, told | 1 << (v - 1), place + 1, row, times);
                }
            }
        }

        int firstWrong(int[] row) {
            int told = 0;
            for (int i = 0; i < row.length && i < size; i++) {
                if (!canCome(row[i], told)) {
                    return i;
                }
                told |= 1 << (row[i] - 1);
            }
            return -1;
        }
    }

    private static final class Trouble {
        private final int sort;
        private final int number;
        private final Trouble cause;

        Trouble(int sort, int number, Trouble cause) {
            this.sort = sort;
            this.number = number;
            this.cause = cause;
        }

        static int howMany(Trouble first) {
            int many = 0;
            for (Trouble t = first; t != null; t = t.cause) {
                many++;
            }
            return many;
        }
    }

    private static final class Step {
        private final int register;
        private final Sum before;

        Step(int register, Sum before) {
            this.register = register;
            this.before = before;
        }
    }

    private static final class Image {
        private final Sum[] registers;
        private final Order things;
        private final float[] cells;
        private final Item[] racks;

        Image(Sum[] registers, Order things, float[] cells, Item[] racks) {
            this.registers = registers;
            this.things = things;
            this.cells = cells;
            this.racks = racks;
        }
    }

    private static final class Term {
        private final boolean ofF;
        private final int times;
        private int weight = 0;
        private int bits = 0;

        Term(boolean ofF, int times) {
            this.ofF = ofF;
            this.times = times;
        }

        void goesOn(int number) {
            if (weight > 0 && weight < HEAVIEST) {
                bits |= 1 << (weight - 1);
            }
            weight += number;
        }

        void comesTo(Sum all, Longs longs) {
            if (ofF) {
                all.comesToFiner(bits, times, longs);
            } else {
                all.comes(bits, times, longs);
            }
        }
    }

    /** Goes along the tape; where it can't go on, at is the fault and term the one in which it stands. */
    private static final class Reader {
        private final int[] tape;
        private final int length;
        private final ArrayList<Term> terms = new ArrayList<Term>();
        private int at = 0;
        private int term = 0;

        Reader(int[] tape, int length) {
            this.tape = tape;
            this.length = Math.min(length, tape.length);
        }

        boolean readText() {
            boolean minus = false;
            for (int i = 0; i <= length; i++) {
                term = i;
                if (!readTerm(minus)) {
                    return false;
                }
                if (at >= length) {
                    return true;
                }
                minus = sees('-');
                if (!minus && !sees('+')) {
                    return false;
                }
                at++;
            }
            return false;
        }

        private boolean readTerm(boolean minus) {
            int times = readTimes();
            boolean ofF = sees('F');
            if (!ofF && !sees('M')) {
                return false;
            }
            at++;
            if (!sees('(')) {
                return false;
            }
            at++;
            Term told = new Term(ofF, minus ? -times : times);
            if (!sees(')') && !readNumbers(told)) {
                return false;
            }
            if (!sees(')')) {
                return false;
            }
            at++;
            terms.add(told);
            return true;
        }

        private int readTimes() {
            int times = 0;
            int figures = 0;
            while (figures < 4 && figure() >= 0) {
                times = times * 10 + figure();
                figures++;
                at++;
            }
            return figures == 0 ? 1 : times;
        }

        private boolean readNumbers(Term told) {
            for (int i = 0; i < length; i++) {
                int number = figure();
                if (number < 1 || number > 6) {
                    return false;
                }
                told.goesOn(number);
                at++;
                if (!sees(',')) {
                    return true;
                }
                at++;
            }
            return false;
        }

        private boolean sees(char letter) {
            return within(at, length) && tape[at] == letter;
        }

        private int figure() {
            if (!within(at, length) || tape[at] < '0' || tape[at] > '9') {
                return -1;
            }
            return tape[at] - '0';
        }
    }
}
