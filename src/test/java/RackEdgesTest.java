// The boundary cases of racks (promises 24 to 26): a test for each sentence of ../shared/DOC.md that names one.
public final class RackEdgesTest extends Bench {
    private static final int[] NO_RACK = {-1, 3, LEAST_INT, MOST_INT};
    private static final int[] NO_PLACE = {-1, 4, LEAST_INT, MOST_INT};

    static void emptyAtFirst() {
        says("RACKS 0 .. 2 have 4 places, which hold nothing (at first)");
        QuasiSums x = new QuasiSums();
        due("held", x.count(3), 0);
        for (int rack = 0; rack < 3; rack++) {
            for (int i = 0; i < 4; i++) {
                due("holds", x.holds(rack, i), NOT);
                due("fetch", x.fetch(rack, i, 0), NOT);
            }
        }
    }

    static void allPlaces() {
        says("RACKS 0 .. 2 have 4 places: what each holds is its own");
        QuasiSums x = new QuasiSums();
        for (int i = 0; i < 12; i++) {
            x.zero(0, 0);
            x.put(0, 0, i + 1);
            lay(x, 0, i + 1);
            due("store", x.store(i / 4, i % 4, i / 4 == 1 ? 1 : 0, 0), 1);
            due("held", x.count(3), i + 1);
        }
        for (int i = 11; i >= 0; i--) {
            int kind = i / 4 == 1 ? 1 : 0;
            due("holds", x.holds(i / 4, i % 4), kind);
            due("fetch", x.fetch(i / 4, i % 4, 2), kind);
            due("what it held", kind == 1 ? x.get(2, 0) : x.of(2, 0), i + 1);
        }
        due("held still", x.count(3), 12);
    }

    static void storeBad() {
        says("store: BAD: rack, kind, k");
        QuasiSums x = new QuasiSums();
        lay(x, 2, 1);
        for (int rack : NO_RACK) {
            due("rack " + rack, x.store(rack, 0, 0, 0), BAD);
            due("rack " + rack + " ahead of -11, -13", x.store(rack, 4, 1, 0), BAD);
        }
        for (int kind : new int[] {-1, 2, LEAST_INT, MOST_INT}) {
            due("kind " + kind, x.store(2, 0, kind, 0), BAD);
        }
        for (int k : new int[] {-1, 4, LEAST_INT, MOST_INT}) {
            due("REGISTER " + k, x.store(2, 0, 0, k), BAD);
            due("REGISTER " + k + " ahead of -13, -16", x.store(1, 4, 0, k), BAD);
            due("ROW " + k, x.store(2, 0, 1, k), BAD);
        }
        due("ROW 3", x.store(2, 0, 1, 3), BAD);
        due("ROW 3 ahead of -13, -16", x.store(0, 4, 1, 3), BAD);
        due("held", x.count(3), 0);
        due("REGISTER 3", x.store(2, 0, 0, 3), 1);
        due("ROW 2", x.store(2, 1, 1, 2), 1);
    }

    static void storeMissing() {
        says("store: -11: the ROW");
        QuasiSums x = new QuasiSums();
        due("missing", x.store(2, 0, 1, 0), -11);
        due("ahead of -13", x.store(2, 4, 1, 0), -11);
        due("ahead of -16", x.store(0, 0, 1, 0), -11);
        due("held", x.count(3), 0);
        x.row(0, 0);
        due("a ROW of none", x.store(2, 0, 1, 0), 1);
        x.row(0, -1);
        due("missing again", x.store(2, 1, 1, 0), -11);
        due("a SUM is never missing", x.store(2, 2, 0, 0), 1);
    }

    static void storeOutside() {
        says("store: -13: i");
        QuasiSums x = new QuasiSums();
        lay(x, 0, 1);
        for (int i : NO_PLACE) {
            due("a SUM at " + i, x.store(0, i, 0, 0), -13);
            due("a ROW at " + i, x.store(1, i, 1, 0), -13);
            due("a ROW at " + i + " ahead of -16", x.store(0, i, 1, 0), -13);
            due("a SUM at " + i + " ahead of -16", x.store(1, i, 0, 0), -13);
        }
        due("held", x.count(3), 0);
        due("place 3", x.store(0, 3, 0, 0), 1);
    }

    static void takesOneKind() {
        says("RACK 0 takes SUMS alone, RACK 1 ROWS alone, RACK 2 both: -16, if it does not take it");
        QuasiSums x = new QuasiSums();
        lay(x, 0, 1);
        due("RACK 0, a SUM", x.store(0, 0, 0, 0), 1);
        due("RACK 0, a ROW", x.store(0, 0, 1, 0), -16);
        due("RACK 0 holds the SUM", x.holds(0, 0), 0);
        due("RACK 1, a SUM", x.store(1, 0, 0, 0), -16);
        due("RACK 1, a ROW", x.store(1, 0, 1, 0), 1);
        due("RACK 2, a SUM", x.store(2, 0, 0, 0), 1);
        due("RACK 2, a ROW in its place", x.store(2, 0, 1, 0), 1);
        due("RACK 2 holds the ROW", x.holds(2, 0), 1);
        due("held", x.count(3), 3);
    }

    static void asItWasThen() {
        says("What a RACK holds is as it was then");
        QuasiSums x = with(0, 2, 5, 6);
        lay(x, 0, 7, 8);
        x.store(2, 0, 0, 0);
        x.store(2, 1, 1, 0);
        x.put(0, 1, 0);
        x.lay(0, 1, 0);
        x.fetch(2, 0, 1);
        x.fetch(2, 1, 1);
        dueNumbers(x, 1, 5, 6);
        dueRow(x, 1, 7, 8);
        x.fundamental(1, 0, 1);
        x.lay(1, 0, 0);
        x.fetch(2, 0, 1);
        x.fetch(2, 1, 1);
        dueNumbers(x, 1, 5, 6);
        dueRow(x, 1, 7, 8);
    }

    static void fetchBad() {
        says("fetch: BAD: rack; -13; NOT: nothing; BAD: no such REGISTER, ROW");
        QuasiSums x = new QuasiSums();
        lay(x, 0, 1);
        x.store(2, 0, 0, 0);
        x.store(2, 1, 1, 0);
        for (int rack : NO_RACK) {
            due("rack " + rack + " ahead of -13", x.fetch(rack, 4, 4), BAD);
        }
        for (int i : NO_PLACE) {
            due("place " + i + " ahead of k", x.fetch(2, i, 4), -13);
        }
        due("nothing, ahead of k", x.fetch(2, 2, 4), NOT);
        for (int k : new int[] {-1, 4, LEAST_INT, MOST_INT}) {
            due("REGISTER " + k, x.fetch(2, 0, k), BAD);
            due("ROW " + k, x.fetch(2, 1, k), BAD);
        }
        due("ROW 3", x.fetch(2, 1, 3), BAD);
        due("REGISTER 3", x.fetch(2, 0, 3), 0);
        due("ROW 2, missing so far", x.fetch(2, 1, 2), 1);
        dueRow(x, 2, 1);
    }

    static void holdsBad() {
        says("holds: NOT: nothing. BAD: rack; -13");
        QuasiSums x = new QuasiSums();
        for (int rack : NO_RACK) {
            due("rack " + rack, x.holds(rack, 0), BAD);
            due("rack " + rack + " ahead of -13", x.holds(rack, 4), BAD);
        }
        for (int i : NO_PLACE) {
            due("place " + i, x.holds(0, i), -13);
            due("place " + i, x.holds(2, i), -13);
        }
        due("nothing", x.holds(2, 3), NOT);
        x.store(2, 3, 0, 0);
        due("a SUM", x.holds(2, 3), 0);
    }

    public static void main(String[] args) {
        testSentences(RackEdgesTest.class);
    }
}
