import java.util.ArrayList;
import java.util.List;

// "ANSWERS that are refusals (nothing changes but where it is told)": each refusal of each call, on one of two objects
// that are brought equally far; behind it both must tell the same of all that they hold.
public final class RefusalsTest extends Bench {
    private interface Call {
        long on(QuasiSums x);
    }

    private interface Stage {
        QuasiSums made();
    }

    private static int refusals = 0;

    /** Something of everything: eight steps, an order, cells, racks, rows, a begun text, a reason, an image. */
    private static QuasiSums full() {
        QuasiSums x = new QuasiSums();
        x.order(3);
        x.below(3, 1);
        read(x, 2, "M(1)+M(2)");
        with(x, 3, 1, -4);
        x.warm(0, 3, 0);
        x.store(0, 0, 0, 3);
        x.image();
        lay(x, 0, 2, 3, 1);
        lay(x, 1, 5);
        x.store(1, 2, 1, 0);
        x.store(2, 3, 0, 0);
        with(x, 0, 3, 7, -1, MOST, LEAST);
        with(x, 1, 6, 2);
        x.warm(1, 0, 3);
        x.zero(2, 2);
        x.put(2, 1, 9);
        feed(x, "2M(1");
        return x;
    }

    private static QuasiSums fullTape() {
        QuasiSums x = full();
        feed(x, "+".repeat(76));
        return x;
    }

    private static QuasiSums withoutThings() {
        QuasiSums x = full();
        x.order(0);
        return x;
    }

    private static void tellRegisters(QuasiSums x, List<Long> told) {
        for (int r = 0; r < 4; r++) {
            for (int what = 0; what < 3; what++) {
                told.add((long) x.told(r, what));
            }
            for (int c = 0; c < Math.min(4, x.told(r, 1)); c++) {
                told.add(x.of(r, c));
            }
        }
    }

    private static void tellOrder(QuasiSums x, List<Long> told) {
        told.add((long) x.rowOf(-1, 0));
        for (int i = 1; i <= x.count(4); i++) {
            for (int j = 1; j <= x.count(4); j++) {
                told.add((long) x.isBelow(i, j));
            }
        }
    }

    private static void tellRows(QuasiSums x, List<Long> told) {
        for (int row = 0; row < 3; row++) {
            told.add((long) x.judge(row));
            for (int i = 0; i < 4; i++) {
                told.add(x.get(row, i));
            }
        }
    }

    private static void tellRacks(QuasiSums x, List<Long> told) {
        for (int rack = 0; rack < 3; rack++) {
            for (int i = 0; i < 4; i++) {
                told.add((long) x.fetch(rack, i, 2));
                told.add(x.of(2, 0));
                told.add(x.get(2, 0));
            }
        }
    }

    private static void tellCells(QuasiSums x, List<Long> told) {
        told.add(x.warmth(0));
        told.add(x.warmth(1));
        x.zero(0, 0);
        for (int cell = 0; cell < 6; cell++) {
            told.add((long) x.warm(cell, 0, 0));
        }
    }

    private static void tellWhy(QuasiSums x, List<Long> told) {
        for (int i = 0; i < 3; i++) {
            told.add((long) x.why(i, 0));
            told.add((long) x.why(i, 1));
        }
    }

    private static void tellTape(QuasiSums x, List<Long> told) {
        x.feed(')');
        told.add((long) x.read(2));
        told.add(x.of(2, 0));
    }

    private static void tellSteps(QuasiSums x, List<Long> told) {
        for (int n = 0; n < 9; n++) {
            told.add((long) x.back());
            for (int r = 0; r < 4; r++) {
                told.add((long) x.told(r, 0));
                told.add(x.of(r, 0));
                told.add(x.of(r, 3));
            }
        }
    }

    /** Uses the object up: what it holds is told by calls, some of which change it. */
    private static List<Long> all(QuasiSums x, boolean asksWhy, boolean asksTape) {
        List<Long> told = new ArrayList<>();
        for (int what = 0; what < 6; what++) {
            boolean asks = what == 1 ? asksTape : what == 2 ? asksWhy : true;
            told.add(asks ? x.count(what) : 0L);
        }
        if (asksWhy) {
            tellWhy(x, told);
        }
        tellRegisters(x, told);
        tellOrder(x, told);
        tellRows(x, told);
        tellSteps(x, told);
        tellRacks(x, told);
        tellCells(x, told);
        if (asksTape) {
            tellTape(x, told);
        }
        told.add((long) x.restore());
        tellRegisters(x, told);
        tellOrder(x, told);
        tellRacks(x, told);
        tellCells(x, told);
        return told;
    }

    private static void refused(String call, Stage stage, Call on, long want, boolean asksWhy, boolean asksTape) {
        refusals++;
        QuasiSums asked = stage.made();
        QuasiSums twin = stage.made();
        due(call, on.on(asked), want);
        List<Long> told = all(asked, asksWhy, asksTape);
        List<Long> wanted = all(twin, asksWhy, asksTape);
        due(call + ": how much is told", told.size(), wanted.size());
        for (int i = 0; i < Math.min(told.size(), wanted.size()); i++) {
            due(call + ": what is told behind it, at " + i, told.get(i), wanted.get(i));
        }
    }

    private static void refused(String call, long want, Call on) {
        refused(call, RefusalsTest::full, on, want, true, true);
    }

    /** Why tells of it, nothing else does. */
    private static void over(String call, long want, Call on) {
        refused(call, RefusalsTest::full, on, want, false, true);
    }

    /** Why tells of it, and the tape is empty. */
    private static void unread(String text, long want) {
        refused("read of " + text, RefusalsTest::full, x -> {
            x.wipe();
            return read(x, 0, text);
        }, want, false, false);
    }

    private static void ofSums() {
        refused("zero r", BAD, x -> x.zero(4, 1));
        refused("zero n", BAD, x -> x.zero(0, 7));
        refused("put r", BAD, x -> x.put(-1, 0, 1));
        refused("put c", BAD, x -> x.put(0, 4, 1));
        refused("of r", VOID, x -> x.of(4, 0));
        refused("of c", VOID, x -> x.of(0, -1));
        refused("fundamental r", BAD, x -> x.fundamental(4, 0, 1));
        refused("fundamental c", BAD, x -> x.fundamental(0, 4, 1));
        over("fundamental", OVER, x -> x.fundamental(0, 0, 1));
        refused("inF r", VOID, x -> x.inF(4, 0));
        refused("inF c", VOID, x -> x.inF(0, 4));
        over("inF", VOID, x -> x.inF(0, 3));
        refused("told r", BAD, x -> x.told(4, 0));
        refused("told what", BAD, x -> x.told(0, 3));
        refused("composition n", BAD, x -> x.composition(7, 0, 0));
        refused("composition c", BAD, x -> x.composition(3, 4, 0));
        refused("composition what", BAD, x -> x.composition(3, 0, 4));
        refused("composition i", NOT, x -> x.composition(3, 0, 11));
        refused("sum r", BAD, x -> x.sum(4, 0, 0));
        refused("sum s", BAD, x -> x.sum(0, 4, 0));
        refused("sum t", BAD, x -> x.sum(0, 0, 4));
        refused("sum unlike", STATE, x -> x.sum(0, 1, 2));
        over("sum", OVER, x -> x.sum(3, 0, 0));
        refused("multiply r", BAD, x -> x.multiply(4, 0, 0));
        refused("multiply s", BAD, x -> x.multiply(0, 4, 0));
        refused("multiply t", BAD, x -> x.multiply(0, 0, 4));
        refused("multiply above 6", STATE, x -> x.multiply(3, 1, 3));
        over("multiply", OVER, x -> x.multiply(3, 0, 3));
        refused("antipode r", BAD, x -> x.antipode(4, 0));
        refused("antipode s", BAD, x -> x.antipode(0, 4));
        over("antipode", OVER, x -> x.antipode(1, 0));
        refused("cut r", VOID, x -> x.cut(4, 0, 0, 0));
        refused("cut a", VOID, x -> x.cut(0, 4, 0, 0));
        refused("cut c", VOID, x -> x.cut(0, 1, 1, 0));
        refused("cut d", VOID, x -> x.cut(0, 1, 0, 2));
        refused("counts r", VOID, x -> x.counts(4, 0));
        refused("counts k", VOID, x -> x.counts(0, 21));
        over("counts", VOID, x -> x.counts(0, 20));
    }

    private static void ofTheOrder() {
        refused("order p", BAD, x -> x.order(7));
        refused("below i", BAD, x -> x.below(4, 1));
        refused("below j", BAD, x -> x.below(1, 0));
        refused("below round about", STATE, x -> x.below(1, 3));
        refused("below itself", STATE, x -> x.below(2, 2));
        refused("isBelow i", BAD, x -> x.isBelow(0, 1));
        refused("isBelow j", BAD, x -> x.isBelow(1, 4));
        refused("rowOf k", BAD, x -> x.rowOf(-2, 0));
        refused("rowOf i", BAD, x -> x.rowOf(0, 3));
        refused("rowOf not so many", NOT, x -> x.rowOf(3, 0));
        refused("marks k", BAD, x -> x.marks(-1, 0));
        refused("marks what", BAD, x -> x.marks(0, 2));
        refused("marks not so many", NOT, x -> x.marks(3, 0));
        refused("made r", BAD, x -> x.made(4));
        refused("laid k", BAD, x -> x.laid(10));
        refused("below of no things", RefusalsTest::withoutThings, x -> x.below(1, 1), BAD, true, true);
        refused("rowOf of no things", RefusalsTest::withoutThings, x -> x.rowOf(0, 0), BAD, true, true);
        refused("film of no things", RefusalsTest::withoutThings, x -> x.film(2, 1), NOT, true, true);
    }

    private static void ofFloats() {
        refused("share r", BAD, x -> x.share(4, 0));
        refused("share c", BAD, x -> x.share(0, 4));
        refused("warm cell", BAD, x -> x.warm(6, 0, 0));
        refused("warm r", BAD, x -> x.warm(0, 4, 0));
        refused("warm c", BAD, x -> x.warm(0, 0, 4));
        refused("warmth what", VOID, x -> x.warmth(2));
    }

    private static void ofRacks() {
        refused("store rack", BAD, x -> x.store(3, 0, 0, 0));
        refused("store kind", BAD, x -> x.store(2, 0, 2, 0));
        refused("store register", BAD, x -> x.store(2, 0, 0, 4));
        refused("store row", BAD, x -> x.store(2, 0, 1, 3));
        refused("store missing", -11, x -> x.store(2, 0, 1, 2));
        refused("store place", -13, x -> x.store(2, 4, 0, 0));
        refused("store a row in rack 0", -16, x -> x.store(0, 0, 1, 0));
        refused("store a sum in rack 1", -16, x -> x.store(1, 2, 0, 0));
        refused("fetch rack", BAD, x -> x.fetch(3, 0, 0));
        refused("fetch place", -13, x -> x.fetch(2, 4, 0));
        refused("fetch nothing", NOT, x -> x.fetch(2, 0, 0));
        refused("fetch register", BAD, x -> x.fetch(0, 0, 4));
        refused("fetch row", BAD, x -> x.fetch(1, 2, 3));
        refused("holds rack", BAD, x -> x.holds(3, 0));
        refused("holds place", -13, x -> x.holds(2, 4));
        refused("holds nothing", NOT, x -> x.holds(2, 0));
    }

    private static void ofRows() {
        refused("row row", BAD, x -> x.row(3, 1));
        refused("row above 40", BAD, x -> x.row(0, 41));
        refused("row below -1", -14, x -> x.row(0, -2));
        refused("lay row", BAD, x -> x.lay(3, 0, 1));
        refused("lay missing", -11, x -> x.lay(2, 0, 1));
        refused("lay place", -13, x -> x.lay(0, 3, 1));
        refused("get row", VOID, x -> x.get(3, 0));
        refused("get missing", VOID, x -> x.get(2, 0));
        refused("get place", VOID, x -> x.get(0, 3));
        refused("copy row", BAD, x -> x.copy(3, 0, 0, 0, 1));
        refused("copy other", BAD, x -> x.copy(0, 0, 3, 0, 1));
        refused("copy row missing", -11, x -> x.copy(2, 0, 0, 0, 1));
        refused("copy other missing", -11, x -> x.copy(0, 0, 2, 0, 1));
        refused("copy i", -13, x -> x.copy(0, 2, 1, 0, 2));
        refused("copy j", -13, x -> x.copy(0, 0, 1, 0, 2));
        refused("copy n", -13, x -> x.copy(0, 1, 1, 1, -1));
        refused("film row", BAD, x -> x.film(3, 0));
        refused("film k", BAD, x -> x.film(0, -1));
        refused("film not so many", NOT, x -> x.film(0, 3));
        refused("judge row", BAD, x -> x.judge(3));
        refused("judge missing", -11, x -> x.judge(2));
    }

    private static void ofTexts() {
        refused("feed below 32", BAD, x -> x.feed(31));
        refused("feed above 126", BAD, x -> x.feed(127));
        refused("feed more than 80", RefusalsTest::fullTape, x -> x.feed('M'), FULL, true, true);
        refused("read of no register", BAD, x -> x.read(4));
        unread("", -100);
        unread("M(2)-M(1", -108);
        unread("M(2)-M(1)", STATE);
        unread("M(6,6)", STATE);
        refused("why i", BAD, x -> x.why(-1, 0));
        refused("why what", BAD, x -> x.why(0, 2));
        refused("why not so many", NOT, x -> x.why(2, 0));
        refused("count what", BAD, x -> x.count(6));
        refused("back", QuasiSums::new, x -> x.back(), STATE, true, true);
        refused("restore", RefusalsTest::withoutImage, x -> x.restore(), STATE, true, true);
    }

    private static QuasiSums withoutImage() {
        QuasiSums x = with(1, 3, 5, 6, 7, 8);
        x.order(4);
        x.below(2, 3);
        lay(x, 0, 1, 2);
        x.store(2, 1, 1, 0);
        x.warm(3, 1, 2);
        feed(x, "F(1");
        return x;
    }

    public static void main(String[] args) {
        ofSums();
        ofTheOrder();
        ofFloats();
        ofRacks();
        ofRows();
        ofTexts();
        System.out.println(refusals + " refusals");
        finish();
    }
}
