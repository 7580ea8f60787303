import java.math.BigInteger;
import java.util.ArrayDeque;
import java.util.ArrayList;
import java.util.Arrays;
import java.util.Collections;
import java.util.Deque;
import java.util.List;
import java.util.Map;
import java.util.Random;
import java.util.TreeMap;
import java.util.regex.Pattern;

// All promises: long runs of calls, each answer held against a second reading of the document (Model).
public final class ModelTest {
    private static final int RUNS = 700;
    private static final int CALLS = 512;
    private static final String[] METHODS = {
        "zero", "put", "put", "put", "of", "fundamental", "fundamental", "inF", "inF", "told", "composition", "sum",
        "multiply", "multiply", "antipode", "antipode", "cut", "counts", "counts", "order", "below", "below",
        "isBelow", "rowOf", "marks", "made", "laid", "share", "warm", "warmth", "store", "fetch", "holds", "row",
        "lay", "get", "copy", "film", "judge", "back", "feed", "wipe", "why", "why", "image", "restore", "count",
        "text", "text"};

    /** The document once more, plainly: lists of numbers, BigInteger, all rows tried. */
    private static final class Model {
        static final long VOID = Long.MIN_VALUE;
        long[][] registers = {{0}, {0}, {0}, {0}};
        // Of one number the weight is 0 or 1, which the numbers alone do not tell.
        int[] weights = new int[4];
        boolean[][] below = new boolean[1][1];
        int p = 0;
        float[] cells = new float[6];
        Object[][] racks = new Object[3][4];
        int[][] rows = new int[3][];
        StringBuilder tape = new StringBuilder();
        List<int[]> why = new ArrayList<>();
        Deque<Object[]> steps = new ArrayDeque<>();
        Object[] image = null;
        // How many calls left their register as it was.
        int unmade = 0;

        static boolean in(int x, int least, int most) {
            return x >= least && x <= most;
        }

        static List<Integer> parts(int n, int c) {
            List<Integer> parts = new ArrayList<>();
            int from = 0;
            for (int i = 1; i <= n; i++) {
                if (i == n || (c >> (i - 1)) % 2 == 1) {
                    parts.add(i - from);
                    from = i;
                }
            }
            return parts;
        }

        static int bits(List<Integer> parts) {
            int together = 0;
            int bits = 0;
            for (int i = 0; i + 1 < parts.size(); i++) {
                together += parts.get(i);
                bits += 1 << (together - 1);
            }
            return bits;
        }

        static int many(int n) {
            return n == 0 ? 1 : (int) Math.pow(2, n - 1);
        }

        static boolean finer(int fine, int coarse) {
            return (coarse & ~fine) == 0;
        }

        static boolean isLong(BigInteger x) {
            return x.bitLength() <= 63;
        }

        boolean has(int r, int c) {
            return in(r, 0, 3) && in(c, 0, registers[r].length - 1);
        }

        void become(int r, int n, long[] numbers) {
            if (weights[r] == n && Arrays.equals(registers[r], numbers)) {
                unmade++;
                return;
            }
            steps.addLast(new Object[] {r, weights[r], registers[r]});
            if (steps.size() > 8) {
                steps.removeFirst();
            }
            weights[r] = n;
            registers[r] = numbers;
        }

        int over(int number) {
            why = List.of(new int[] {4, number});
            return -9;
        }

        int zero(int r, int n) {
            if (!in(r, 0, 3) || !in(n, 0, 6)) {
                return -1;
            }
            int before = weights[r];
            become(r, n, new long[many(n)]);
            return before;
        }

        int put(int r, int c, long v) {
            if (!has(r, c)) {
                return -1;
            }
            long[] next = registers[r].clone();
            next[c] = v;
            become(r, weights[r], next);
            return 1;
        }

        long of(int r, int c) {
            return has(r, c) ? registers[r][c] : VOID;
        }

        int fundamental(int r, int c, long v) {
            if (!has(r, c)) {
                return -1;
            }
            long[] next = registers[r].clone();
            for (int e = 0; e < next.length; e++) {
                if (finer(e, c)) {
                    BigInteger sum = BigInteger.valueOf(next[e]).add(BigInteger.valueOf(v));
                    if (!isLong(sum)) {
                        return over(e);
                    }
                    next[e] = sum.longValue();
                }
            }
            become(r, weights[r], next);
            return 1;
        }

        long inF(int r, int c) {
            if (!has(r, c)) {
                return VOID;
            }
            BigInteger all = BigInteger.ZERO;
            for (int b = 0; b < registers[r].length; b++) {
                if (!finer(c, b)) {
                    continue;
                }
                int apart = parts(weights[r], c).size() - parts(weights[r], b).size();
                BigInteger number = BigInteger.valueOf(registers[r][b]);
                number = apart % 2 == 1 ? number.negate() : number;
                all = all.add(number);
                if (!isLong(number) || !isLong(all)) {
                    over(c);
                    return VOID;
                }
            }
            return all.longValue();
        }

        int told(int r, int what) {
            if (!in(r, 0, 3) || !in(what, 0, 2)) {
                return -1;
            }
            long notZero = Arrays.stream(registers[r]).filter(v -> v != 0).count();
            return what == 0 ? weights[r] : what == 1 ? registers[r].length : (int) notZero;
        }

        int composition(int n, int c, int what) {
            if (!in(n, 0, 6) || !in(c, 0, many(n) - 1) || what < 0 || in(what, 4, 9)) {
                return -1;
            }
            List<Integer> parts = parts(n, c);
            if (what >= 10) {
                return what - 10 < parts.size() ? parts.get(what - 10) : -2;
            }
            if (what == 0) {
                return parts.size();
            }
            if (what == 1) {
                Collections.reverse(parts);
                return bits(parts);
            }
            int found = 0;
            for (int e = 0; e < many(n); e++) {
                if (what == 2 && (e & c) == 0 && (e | c) == many(n) - 1) {
                    return e;
                }
                found += finer(e, c) ? 1 : 0;
            }
            return found;
        }

        int sum(int r, int s, int t) {
            if (!in(r, 0, 3) || !in(s, 0, 3) || !in(t, 0, 3)) {
                return -1;
            }
            if (weights[s] != weights[t]) {
                return -5;
            }
            long[] next = new long[registers[s].length];
            for (int c = 0; c < next.length; c++) {
                BigInteger both = BigInteger.valueOf(registers[s][c]).add(BigInteger.valueOf(registers[t][c]));
                if (!isLong(both)) {
                    return over(c);
                }
                next[c] = both.longValue();
            }
            become(r, weights[s], next);
            return weights[r];
        }

        // Of e: how many ways its numbers, one behind the other, can be taken from c and from d.
        static int ways(List<Integer> c, List<Integer> d, List<Integer> e) {
            if (e.isEmpty()) {
                return c.isEmpty() && d.isEmpty() ? 1 : 0;
            }
            List<Integer> left = e.subList(1, e.size());
            int ways = 0;
            if (!c.isEmpty() && c.get(0).equals(e.get(0))) {
                ways += ways(c.subList(1, c.size()), d, left);
            }
            if (!d.isEmpty() && d.get(0).equals(e.get(0))) {
                ways += ways(c, d.subList(1, d.size()), left);
            }
            if (!c.isEmpty() && !d.isEmpty() && c.get(0) + d.get(0) == e.get(0)) {
                ways += ways(c.subList(1, c.size()), d.subList(1, d.size()), left);
            }
            return ways;
        }

        int multiply(int r, int s, int t) {
            if (!in(r, 0, 3) || !in(s, 0, 3) || !in(t, 0, 3)) {
                return -1;
            }
            int n = weights[s] + weights[t];
            if (n > 6) {
                return -5;
            }
            long[] next = new long[many(n)];
            for (int c = 0; c < registers[s].length; c++) {
                for (int d = 0; d < registers[t].length; d++) {
                    BigInteger both = BigInteger.valueOf(registers[s][c]).multiply(BigInteger.valueOf(registers[t][d]));
                    if (!isLong(both)) {
                        return over(100 + c);
                    }
                    for (int e = 0; e < next.length; e++) {
                        int ways = ways(parts(weights[s], c), parts(weights[t], d), parts(n, e));
                        BigInteger comes = both.multiply(BigInteger.valueOf(ways));
                        BigInteger all = comes.add(BigInteger.valueOf(next[e]));
                        if (!isLong(comes) || !isLong(all)) {
                            return over(e);
                        }
                        next[e] = all.longValue();
                    }
                }
            }
            become(r, n, next);
            return n;
        }

        int antipode(int r, int s) {
            if (!in(r, 0, 3) || !in(s, 0, 3)) {
                return -1;
            }
            int n = weights[s];
            long[] next = new long[registers[s].length];
            for (int c = 0; c < next.length; c++) {
                List<Integer> turned = parts(n, c);
                Collections.reverse(turned);
                BigInteger number = BigInteger.valueOf(registers[s][c]);
                number = turned.size() % 2 == 1 ? number.negate() : number;
                if (!isLong(number)) {
                    return over(c);
                }
                for (int e = 0; e < next.length; e++) {
                    if (finer(bits(turned), e)) {
                        BigInteger all = number.add(BigInteger.valueOf(next[e]));
                        if (!isLong(all)) {
                            return over(e);
                        }
                        next[e] = all.longValue();
                    }
                }
            }
            become(r, n, next);
            return n;
        }

        long cut(int r, int a, int c, int d) {
            if (!in(r, 0, 3) || !in(a, 0, weights[r])) {
                return VOID;
            }
            int b = weights[r] - a;
            if (!in(c, 0, many(a) - 1) || !in(d, 0, many(b) - 1)) {
                return VOID;
            }
            List<Integer> both = parts(a, c);
            both.addAll(parts(b, d));
            return registers[r][bits(both)];
        }

        static int pick(int length, int k) {
            int ways = 0;
            for (int set = 0; set < 1 << k; set++) {
                ways += Integer.bitCount(set) == length ? 1 : 0;
            }
            return ways;
        }

        static final int[][] PICKS = new int[7][21];
        static {
            for (int length = 0; length <= 6; length++) {
                for (int k = 0; k <= 20; k++) {
                    PICKS[length][k] = pick(length, k);
                }
            }
        }

        long counts(int r, int k) {
            if (!in(r, 0, 3) || !in(k, 0, 20)) {
                return VOID;
            }
            BigInteger all = BigInteger.ZERO;
            for (int c = 0; c < registers[r].length; c++) {
                int ways = PICKS[parts(weights[r], c).size()][k];
                BigInteger comes = BigInteger.valueOf(registers[r][c]).multiply(BigInteger.valueOf(ways));
                all = all.add(comes);
                if (!isLong(comes) || !isLong(all)) {
                    over(c);
                    return VOID;
                }
            }
            return all.longValue();
        }

        int order(int size) {
            if (!in(size, 0, 6)) {
                return -1;
            }
            int before = p;
            p = size;
            below = new boolean[p + 1][p + 1];
            return before;
        }

        int below(int i, int j) {
            if (!in(i, 1, p) || !in(j, 1, p)) {
                return -1;
            }
            if (i == j || below[j][i]) {
                return -5;
            }
            boolean[][] next = new boolean[p + 1][];
            for (int a = 0; a <= p; a++) {
                next[a] = below[a].clone();
            }
            next[i][j] = true;
            for (int way = 0; way < p; way++) {
                for (int a = 1; a <= p; a++) {
                    for (int b = 1; b <= p; b++) {
                        for (int c = 1; c <= p; c++) {
                            next[a][c] |= next[a][b] && next[b][c];
                        }
                    }
                }
            }
            below = next;
            int twos = 0;
            for (boolean[] one : below) {
                for (boolean is : one) {
                    twos += is ? 1 : 0;
                }
            }
            return twos;
        }

        int isBelow(int i, int j) {
            return !in(i, 1, p) || !in(j, 1, p) ? -1 : below[i][j] ? 1 : 0;
        }

        List<List<Integer>> rowsOfOrder() {
            List<List<Integer>> found = new ArrayList<>();
            lengthen(new ArrayList<>(), found);
            return found;
        }

        void lengthen(List<Integer> begun, List<List<Integer>> found) {
            if (begun.size() == p) {
                for (int a = 0; a < p; a++) {
                    for (int b = a + 1; b < p; b++) {
                        if (below[begun.get(b)][begun.get(a)]) {
                            return;
                        }
                    }
                }
                found.add(new ArrayList<>(begun));
                return;
            }
            for (int v = 1; v <= p; v++) {
                if (!begun.contains(v)) {
                    begun.add(v);
                    lengthen(begun, found);
                    begun.remove(begun.size() - 1);
                }
            }
        }

        int rowOf(int k, int i) {
            List<List<Integer>> all = rowsOfOrder();
            if (k == -1) {
                return all.size();
            }
            if (k < -1 || !in(i, 0, p - 1)) {
                return -1;
            }
            return k >= all.size() ? -2 : all.get(k).get(i);
        }

        static int descents(List<Integer> row) {
            int bits = 0;
            for (int i = 1; i <= row.size() - 1; i++) {
                bits |= row.get(i - 1) > row.get(i) ? 1 << (i - 1) : 0;
            }
            return bits;
        }

        int marks(int k, int what) {
            if (k < 0 || !in(what, 0, 1)) {
                return -1;
            }
            List<List<Integer>> all = rowsOfOrder();
            if (k >= all.size()) {
                return -2;
            }
            int falls = descents(all.get(k));
            // A peak: a descent with no descent at the place ahead.
            return what == 0 ? falls : falls & ~(falls << 1) & ~1;
        }

        int made(int r) {
            if (!in(r, 0, 3)) {
                return -1;
            }
            long[] next = new long[many(p)];
            for (List<Integer> row : rowsOfOrder()) {
                for (int e = 0; e < next.length; e++) {
                    next[e] += finer(e, descents(row)) ? 1 : 0;
                }
            }
            become(r, p, next);
            return p;
        }

        int laid(int k) {
            return in(k, 0, 9) ? layings(k, new int[p + 1], 1) : -1;
        }

        int layings(int k, int[] given, int next) {
            if (next > p) {
                return 1;
            }
            int ways = 0;
            for (int v = 1; v <= k; v++) {
                given[next] = v;
                boolean fits = true;
                for (int o = 1; o < next; o++) {
                    fits &= !below[o][next] || given[o] <= v;
                    fits &= !below[next][o] || v < given[o];
                }
                ways += fits ? layings(k, given, next + 1) : 0;
            }
            return ways;
        }

        float shareOf(int r, int c) {
            float all = 0f;
            for (long v : registers[r]) {
                all += new BigInteger(Long.toString(v)).abs().floatValue();
            }
            return all == 0f ? 0f : (float) registers[r][c] / all;
        }

        int share(int r, int c) {
            return has(r, c) ? Float.floatToRawIntBits(shareOf(r, c)) : -1;
        }

        int warm(int cell, int r, int c) {
            if (!in(cell, 0, 5) || !has(r, c)) {
                return -1;
            }
            cells[cell] = cells[cell] * 0.5f + shareOf(r, c);
            return Float.floatToRawIntBits(cells[cell]);
        }

        long warmth(int what) {
            float all = cells[0];
            double wide = cells[0];
            for (int i = 1; i < 6; i++) {
                all += cells[i];
                wide += cells[i];
            }
            return what == 0 ? Float.floatToRawIntBits(all) : what == 1 ? Double.doubleToRawLongBits(wide) : VOID;
        }

        int store(int rack, int i, int kind, int k) {
            if (!in(rack, 0, 2) || !in(kind, 0, 1) || !in(k, 0, kind == 0 ? 3 : 2)) {
                return -1;
            }
            if (kind == 1 && rows[k] == null) {
                return -11;
            }
            if (!in(i, 0, 3)) {
                return -13;
            }
            if (rack == 0 && kind == 1 || rack == 1 && kind == 0) {
                return -16;
            }
            racks[rack][i] = kind == 0 ? new Object[] {weights[k], registers[k].clone()} : rows[k].clone();
            return 1;
        }

        int fetch(int rack, int i, int k) {
            if (!in(rack, 0, 2)) {
                return -1;
            }
            if (!in(i, 0, 3)) {
                return -13;
            }
            if (racks[rack][i] == null) {
                return -2;
            }
            if (racks[rack][i] instanceof int[] row) {
                if (!in(k, 0, 2)) {
                    return -1;
                }
                rows[k] = row.clone();
                return 1;
            }
            if (!in(k, 0, 3)) {
                return -1;
            }
            Object[] sum = (Object[]) racks[rack][i];
            become(k, (Integer) sum[0], ((long[]) sum[1]).clone());
            return 0;
        }

        int holds(int rack, int i) {
            return !in(rack, 0, 2) ? -1 : !in(i, 0, 3) ? -13
                : racks[rack][i] == null ? -2 : racks[rack][i] instanceof int[] ? 1 : 0;
        }

        int row(int row, int n) {
            if (!in(row, 0, 2) || n > 40) {
                return -1;
            }
            if (n < -1) {
                return -14;
            }
            rows[row] = n < 0 ? null : new int[n];
            return 1;
        }

        int lay(int row, int i, int v) {
            if (!in(row, 0, 2)) {
                return -1;
            }
            if (rows[row] == null) {
                return -11;
            }
            if (!in(i, 0, rows[row].length - 1)) {
                return -13;
            }
            rows[row][i] = v;
            return 1;
        }

        long get(int row, int i) {
            boolean is = in(row, 0, 2) && rows[row] != null && in(i, 0, rows[row].length - 1);
            return is ? rows[row][i] : VOID;
        }

        int copy(int row, int i, int other, int j, int n) {
            if (!in(row, 0, 2) || !in(other, 0, 2)) {
                return -1;
            }
            if (rows[row] == null || rows[other] == null) {
                return -11;
            }
            if (n < 0 || i < 0 || j < 0 || (long) i + n > rows[row].length || (long) j + n > rows[other].length) {
                return -13;
            }
            int[] were = rows[row].clone();
            for (int q = 0; q < n; q++) {
                rows[other][j + q] = were[i + q];
            }
            return n;
        }

        int film(int row, int k) {
            if (!in(row, 0, 2) || k < 0) {
                return -1;
            }
            List<List<Integer>> all = rowsOfOrder();
            if (k >= all.size()) {
                return -2;
            }
            rows[row] = all.get(k).stream().mapToInt(v -> v).toArray();
            return p;
        }

        int judge(int row) {
            if (!in(row, 0, 2)) {
                return -1;
            }
            if (rows[row] == null) {
                return -11;
            }
            List<Integer> told = new ArrayList<>();
            for (int i = 0; i < p; i++) {
                if (i == rows[row].length) {
                    return 100 + i;
                }
                int v = rows[row][i];
                if (!in(v, 1, p) || told.contains(v)) {
                    return i;
                }
                for (int x = 1; x <= p; x++) {
                    if (below[x][v] && !told.contains(x)) {
                        return i;
                    }
                }
                told.add(v);
            }
            return -2;
        }

        int back() {
            if (steps.isEmpty()) {
                return -5;
            }
            Object[] latest = steps.removeLast();
            weights[(Integer) latest[0]] = (Integer) latest[1];
            registers[(Integer) latest[0]] = (long[]) latest[2];
            return steps.size();
        }

        int feed(int letter) {
            if (!in(letter, 32, 126)) {
                return -1;
            }
            if (tape.length() == 80) {
                return -3;
            }
            tape.append((char) letter);
            return tape.length();
        }

        int wipe() {
            int before = tape.length();
            tape.setLength(0);
            return before;
        }

        static final Pattern TERM = Pattern.compile("[0-9]{0,4}[MF]\\((?:[1-6](?:,[1-6])*)?\\)");
        static final Pattern TEXT = Pattern.compile(TERM + "(?:[+-]" + TERM + ")*");

        // A text goes on with these bytes, if one of these ends makes it whole.
        static boolean goesOn(String begun) {
            for (String end : new String[] {"", ")", "1)", "()", "M()"}) {
                if (TEXT.matcher(begun + end).matches()) {
                    return true;
                }
            }
            return false;
        }

        int read(int r) {
            if (!in(r, 0, 3)) {
                return -1;
            }
            String text = tape.toString();
            tape.setLength(0);
            int fault = -1;
            for (int n = 1; n <= text.length() && fault < 0; n++) {
                fault = goesOn(text.substring(0, n)) ? -1 : n - 1;
            }
            fault = fault < 0 && !TEXT.matcher(text).matches() ? text.length() : fault;
            if (fault >= 0) {
                int signs = text.substring(0, fault).replaceAll("[^+-]", "").length();
                why = List.of(new int[] {2, signs}, new int[] {1, fault});
                return -100 - fault;
            }
            String[] terms = text.split("[+-]");
            String signs = "+" + text.replaceAll("[^+-]", "");
            long[] next = null;
            int first = 0;
            for (int t = 0; t < terms.length; t++) {
                int open = terms[t].indexOf('(');
                List<Integer> parts = new ArrayList<>();
                for (char letter : terms[t].substring(open).toCharArray()) {
                    if (Character.isDigit(letter)) {
                        parts.add(letter - '0');
                    }
                }
                int n = parts.stream().mapToInt(v -> v).sum();
                first = t == 0 ? n : first;
                if (n > 6 || n != first) {
                    why = List.of(new int[] {2, t}, new int[] {3, n});
                    return -5;
                }
                next = next == null ? new long[many(n)] : next;
                String figures = terms[t].substring(0, open - 1);
                int v = figures.isEmpty() ? 1 : Integer.parseInt(figures);
                for (int e = 0; e < next.length; e++) {
                    boolean comes = terms[t].charAt(open - 1) == 'F' ? finer(e, bits(parts)) : e == bits(parts);
                    next[e] += !comes ? 0 : signs.charAt(t) == '-' ? -v : v;
                }
            }
            become(r, first, next);
            return first;
        }

        int why(int i, int what) {
            return i < 0 || !in(what, 0, 1) ? -1 : i >= why.size() ? -2 : why.get(i)[what];
        }

        int allWeights() {
            return Arrays.stream(weights).sum();
        }

        int image() {
            Object[][] held = {racks[0].clone(), racks[1].clone(), racks[2].clone()};
            image = new Object[] {registers.clone(), weights.clone(), below, p, cells.clone(), held};
            return allWeights();
        }

        int restore() {
            if (image == null) {
                return -5;
            }
            registers = ((long[][]) image[0]).clone();
            weights = ((int[]) image[1]).clone();
            below = (boolean[][]) image[2];
            p = (Integer) image[3];
            cells = ((float[]) image[4]).clone();
            for (int rack = 0; rack < 3; rack++) {
                racks[rack] = ((Object[][]) image[5])[rack].clone();
            }
            steps.clear();
            return allWeights();
        }

        int count(int what) {
            int held = 0;
            for (Object[] rack : racks) {
                for (Object item : rack) {
                    held += item == null ? 0 : 1;
                }
            }
            int present = 0;
            for (int[] row : rows) {
                present += row == null ? 0 : 1;
            }
            int[] all = {steps.size(), tape.length(), why.size(), held, p, present};
            return in(what, 0, 5) ? all[what] : -1;
        }
    }

    private static int wrong = 0;
    private static final int[] OVERS = new int[200];
    private static int unlikes = 0;
    private static int faults = 0;
    private static final Map<String, Integer> unmade = new TreeMap<>();

    private final Random random;
    private final int run;
    private final QuasiSums real = new QuasiSums();
    private final Model model = new Model();
    private int calls = 0;

    private ModelTest(int run) {
        this.run = run;
        this.random = new Random(run);
    }

    private void due(String call, long got, long want) {
        calls++;
        if (got != want && wrong++ < 40) {
            System.out.println("run " + run + ", call " + calls + ": " + call + " answered " + got + ", due is " + want);
        }
    }

    /** Mostly a number from 0 on below the bound, seldom another one. */
    private int some(int bound) {
        switch (random.nextInt(60)) {
            case 0: return -1;
            case 1: return bound;
            case 2: return random.nextInt();
            case 3: return random.nextBoolean() ? Integer.MIN_VALUE : Integer.MAX_VALUE;
            default: return random.nextInt(Math.max(bound, 1));
        }
    }

    private int someNumber(int r) {
        return some(r >= 0 && r < 4 ? model.registers[r].length : 8);
    }

    private long someLong() {
        switch (random.nextInt(12)) {
            case 0: return Long.MIN_VALUE;
            case 1: return Long.MAX_VALUE;
            case 2: return Long.MIN_VALUE + random.nextInt(4);
            case 3: return Long.MAX_VALUE - random.nextInt(4);
            case 4: return random.nextLong();
            case 5: return random.nextLong() >> random.nextInt(64);
            case 6: return -1;
            default: return random.nextInt(21) - 10;
        }
    }

    private String someText() {
        StringBuilder text = new StringBuilder();
        int weight = random.nextInt(5);
        for (int t = random.nextInt(4); t >= 0; t--) {
            for (int f = random.nextInt(9) == 0 ? random.nextInt(6) : random.nextInt(3); f > 0; f--) {
                text.append(random.nextInt(10));
            }
            int n = random.nextInt(12) == 0 ? random.nextInt(9) : weight;
            String parts = Model.parts(n, random.nextInt(1 << 9)).toString();
            text.append(random.nextBoolean() ? 'M' : 'F').append('(');
            text.append(parts.substring(1, parts.length() - 1).replace(" ", "")).append(')');
            text.append(t == 0 ? "" : random.nextBoolean() ? "+" : "-");
        }
        if (random.nextInt(3) == 0) {
            int at = random.nextInt(text.length() + 1);
            String other = "" + "MF()+-,0123456789 x".charAt(random.nextInt(19));
            int to = Math.min(text.length(), at + random.nextInt(2));
            text.replace(at, to, random.nextBoolean() ? other : "");
        }
        if (random.nextInt(12) == 0) {
            text.setLength(random.nextInt(text.length() + 1));
        }
        return text.toString();
    }

    private void text() {
        String text = someText();
        if (random.nextInt(4) != 0) {
            due("wipe", real.wipe(), model.wipe());
        }
        if (calls + text.length() + 4 > CALLS) {
            return;
        }
        for (char letter : text.toCharArray()) {
            due("feed " + letter, real.feed(letter), model.feed(letter));
        }
        int r = some(4);
        int want = model.read(r);
        faults += want <= -100 ? 1 : 0;
        unlikes += want == -5 ? 1 : 0;
        due("read " + r + " " + text, real.read(r), want);
    }

    private void call(String method) {
        int r = some(4);
        int s = some(4);
        int t = some(4);
        int c = someNumber(r);
        int i = some(model.p + 1);
        int j = some(model.p + 1);
        int k = random.nextInt(4) == 0 ? some(720) : some(24);
        int row = some(3);
        int size = row >= 0 && row < 3 && model.rows[row] != null ? model.rows[row].length : 4;
        long v = someLong();
        String told = method + " " + r + " " + s + " " + t + " " + c + " " + i + " " + j + " " + k + " " + row + " " + v;
        switch (method) {
            case "zero" -> due(told, real.zero(r, j), model.zero(r, j));
            case "put" -> due(told, real.put(r, c, v), model.put(r, c, v));
            case "of" -> due(told, real.of(r, c), model.of(r, c));
            case "fundamental" -> due(told, real.fundamental(r, c, v), model.fundamental(r, c, v));
            case "inF" -> due(told, real.inF(r, c), model.inF(r, c));
            case "told" -> due(told, real.told(r, s), model.told(r, s));
            case "composition" -> {
                int n = some(7);
                int of = some(n >= 0 && n < 7 ? Model.many(n) : 9);
                int what = random.nextBoolean() ? some(4) : some(18);
                due(told, real.composition(n, of, what), model.composition(n, of, what));
            }
            case "sum" -> due(told, real.sum(r, s, t), model.sum(r, s, t));
            case "multiply" -> due(told, real.multiply(r, s, t), model.multiply(r, s, t));
            case "antipode" -> due(told, real.antipode(r, s), model.antipode(r, s));
            case "cut" -> {
                int a = some(r >= 0 && r < 4 ? model.weights[r] + 1 : 3);
                int first = some(a > 0 && a < 7 ? Model.many(a) : 1);
                int last = some(r >= 0 && r < 4 && a >= 0 && a < model.weights[r] ? Model.many(model.weights[r] - a) : 1);
                due(told, real.cut(r, a, first, last), model.cut(r, a, first, last));
            }
            case "counts" -> {
                int letters = some(21);
                due(told, real.counts(r, letters), model.counts(r, letters));
            }
            case "order" -> {
                int p = some(7);
                due(told, real.order(p), model.order(p));
            }
            case "below" -> due(told, real.below(i, j), model.below(i, j));
            case "isBelow" -> due(told, real.isBelow(i, j), model.isBelow(i, j));
            case "rowOf" -> due(told, real.rowOf(k, i), model.rowOf(k, i));
            case "marks" -> {
                int what = some(2);
                due(told, real.marks(k, what), model.marks(k, what));
            }
            case "made" -> due(told, real.made(r), model.made(r));
            case "laid" -> {
                int most = some(10);
                due(told, real.laid(most), model.laid(most));
            }
            case "share" -> due(told, real.share(r, c), model.share(r, c));
            case "warm" -> {
                int cell = some(6);
                due(told, real.warm(cell, r, c), model.warm(cell, r, c));
            }
            case "warmth" -> {
                int what = some(2);
                due(told, real.warmth(what), model.warmth(what));
            }
            case "wipe" -> due(told, real.wipe(), model.wipe());
            case "back" -> due(told, real.back(), model.back());
            case "image" -> due(told, real.image(), model.image());
            case "restore" -> due(told, real.restore(), model.restore());
            case "why" -> {
                int trouble = some(3);
                int what = some(2);
                due(told, real.why(trouble, what), model.why(trouble, what));
            }
            case "count" -> {
                int what = some(6);
                due(told, real.count(what), model.count(what));
            }
            case "feed" -> {
                int letter = 32 + some(95);
                due(told, real.feed(letter), model.feed(letter));
            }
            case "text" -> text();
            default -> callOfRows(method, told, row, size);
        }
    }

    private void callOfRows(String method, String told, int row, int size) {
        int i = some(size);
        int k = some(4);
        int rack = some(3);
        int place = some(4);
        int other = some(3);
        switch (method) {
            case "store" -> {
                int kind = some(2);
                due(told, real.store(rack, place, kind, k), model.store(rack, place, kind, k));
            }
            case "fetch" -> due(told, real.fetch(rack, place, k), model.fetch(rack, place, k));
            case "holds" -> due(told, real.holds(rack, place), model.holds(rack, place));
            case "row" -> {
                int n = random.nextInt(3) == 0 ? some(41) : some(8);
                due(told, real.row(row, n), model.row(row, n));
            }
            case "lay" -> {
                int v = some(8);
                due(told, real.lay(row, i, v), model.lay(row, i, v));
            }
            case "get" -> due(told, real.get(row, i), model.get(row, i));
            case "copy" -> {
                int j = some(size);
                int n = some(1 + size / 2);
                due(told, real.copy(row, i, other, j, n), model.copy(row, i, other, j, n));
            }
            case "film" -> {
                int most = some(24);
                due(told, real.film(row, most), model.film(row, most));
            }
            case "judge" -> due(told, real.judge(row), model.judge(row));
            default -> due("no such method: " + method, 0, 1);
        }
    }

    private void all() {
        while (calls < CALLS) {
            int before = calls;
            String method = METHODS[random.nextInt(METHODS.length)];
            List<int[]> whyBefore = model.why;
            int unmadeBefore = model.unmade;
            call(method);
            if (model.unmade != unmadeBefore) {
                unmade.merge(method, 1, Integer::sum);
            }
            if (model.unmade != unmadeBefore && calls < CALLS) {
                due("steps behind " + method, real.count(0), model.count(0));
            }
            if (model.why != whyBefore && model.why.size() == 1) {
                OVERS[model.why.get(0)[1]]++;
            }
            for (int i = 0; i < 2 && calls > before && calls < CALLS && model.why != whyBefore; i++) {
                due("why behind " + method, real.why(i, 1), model.why(i, 1));
            }
            // Texts that no longer fit into the run make no call.
            if (calls == before) {
                due("count", real.count(1), model.count(1));
            }
        }
    }

    private void compareNumbers() {
        for (int r = 0; r < 4; r++) {
            due("told", real.told(r, 1), model.told(r, 1));
            for (int c = 0; c < model.registers[r].length; c++) {
                due("of " + r + " " + c, real.of(r, c), model.of(r, c));
            }
        }
    }

    // Each register's whole content is looked at now and then: of() is a call that changes nothing.
    private void allComparing() {
        while (calls < CALLS) {
            call(METHODS[random.nextInt(METHODS.length)]);
            if (calls + 140 < CALLS && random.nextInt(4) == 0) {
                compareNumbers();
            }
            if (calls > CALLS - 6) {
                break;
            }
        }
    }

    public static void main(String[] args) {
        for (int run = 0; run < RUNS; run++) {
            ModelTest test = new ModelTest(run);
            if (run % 2 == 0) {
                test.all();
            } else {
                test.allComparing();
            }
        }
        int overs = Arrays.stream(OVERS).sum();
        int ofProducts = Arrays.stream(OVERS, 100, 200).sum();
        System.out.println("OVER " + overs + ", of these products " + ofProducts + ", UNLIKE " + unlikes + ", FAULTS " + faults);
        System.out.println("left as it was: " + unmade);
        if (overs < 1000 || ofProducts < 50 || unlikes < 50 || faults < 50 || unmade.size() < 9) {
            wrong++;
            System.out.println("the runs meet too little of this");
        }
        System.out.println(wrong == 0 ? "all answers are as due" : wrong + " answers are not as due");
        if (wrong != 0) {
            System.exit(1);
        }
    }
}
