// Promises 24 to 32: racks, rows, long rows copied, rows told and judged.
public final class RacksTest extends Bench {
    private static void storing() {
        QuasiSums x = new QuasiSums();
        x.zero(1, 2);
        x.put(1, 1, 7);
        lay(x, 2, 4, 5);
        int[] takesSums = {1, -16, 1};
        int[] takesRows = {-16, 1, 1};
        for (int rack = 0; rack < 3; rack++) {
            due("store sum", x.store(rack, 0, 0, 1), takesSums[rack]);
            due("store row", x.store(rack, 3, 1, 2), takesRows[rack]);
            due("holds", x.holds(rack, 0), takesSums[rack] == 1 ? 0 : -2);
            due("holds", x.holds(rack, 3), takesRows[rack] == 1 ? 1 : -2);
            due("holds", x.holds(rack, 1), -2);
        }
        due("held", x.count(3), 4);
        due("rack 3", x.store(3, 9, 0, 0), -1);
        due("rack -1", x.store(-1, 0, 0, 0), -1);
        due("kind 2", x.store(0, 0, 2, 0), -1);
        due("kind -1", x.store(0, 0, -1, 0), -1);
        due("register 4", x.store(0, 9, 0, 4), -1);
        due("register -1", x.store(0, 0, 0, -1), -1);
        due("row 3", x.store(2, 0, 1, 3), -1);
        due("row 3 is no row, 3 a register", x.store(2, 1, 0, 3), 1);
        due("missing ahead of place", x.store(2, 9, 1, 0), -11);
        due("missing ahead of kind", x.store(0, 0, 1, 0), -11);
        due("place ahead of kind", x.store(0, 4, 1, 2), -13);
        due("place -1", x.store(1, -1, 0, 2), -13);
        due("place 4", x.store(2, 4, 0, 2), -13);
        due("holds rack 3", x.holds(3, 0), -1);
        due("holds rack -1", x.holds(-1, 9), -1);
        due("holds place 4", x.holds(0, 4), -13);
        due("holds place -1", x.holds(0, -1), -13);
    }

    private static void fetching() {
        QuasiSums x = new QuasiSums();
        x.zero(1, 2);
        x.put(1, 1, 7);
        lay(x, 2, 4, 5);
        x.store(2, 0, 0, 1);
        x.store(2, 1, 1, 2);
        x.put(1, 1, 8);
        x.lay(2, 0, 9);
        int before = x.count(0);
        due("fetch row", x.fetch(2, 1, 0), 1);
        dueRow("as it was then", x, 0, 4, 5);
        due("no step", x.count(0), before);
        due("fetch sum", x.fetch(2, 0, 0), 0);
        due("a step", x.count(0), before + 1);
        due("as it was then", x.of(0, 1), 7);
        due("weight", x.told(0, 0), 2);
        x.put(0, 1, 1);
        x.lay(0, 1, 1);
        x.fetch(2, 0, 3);
        x.fetch(2, 1, 1);
        due("held stays", x.of(3, 1), 7);
        dueRow("held stays", x, 1, 4, 5);
        due("still held", x.holds(2, 1), 1);
        due("fetch rack 3", x.fetch(3, 9, 9), -1);
        due("fetch rack -1", x.fetch(-1, 0, 0), -1);
        due("fetch place 4", x.fetch(2, 4, 9), -13);
        due("fetch place -1", x.fetch(2, -1, 0), -13);
        due("fetch nothing", x.fetch(2, 2, 9), -2);
        due("register 4", x.fetch(2, 0, 4), -1);
        due("register -1", x.fetch(2, 0, -1), -1);
        due("row 3", x.fetch(2, 1, 3), -1);
        due("row -1", x.fetch(2, 1, -1), -1);
        x.store(2, 1, 0, 0);
        due("stored over", x.holds(2, 1), 0);
        due("held", x.count(3), 2);
    }

    private static void rows() {
        QuasiSums x = new QuasiSums();
        due("none", x.count(5), 0);
        due("missing", x.lay(0, 0, 1), -11);
        due("missing", x.get(0, 0), VOID);
        due("row 0", x.row(0, 0), 1);
        due("no place", x.lay(0, 0, 1), -13);
        due("no place", x.get(0, 0), VOID);
        due("row 40", x.row(1, 40), 1);
        due("two", x.count(5), 2);
        due("lay 39", x.lay(1, 39, Integer.MIN_VALUE), 1);
        due("get 39", x.get(1, 39), Integer.MIN_VALUE);
        due("get 38", x.get(1, 38), 0);
        due("lay 40", x.lay(1, 40, 1), -13);
        due("lay -1", x.lay(1, -1, 1), -13);
        due("get -1", x.get(1, -1), VOID);
        due("get 40", x.get(1, 40), VOID);
        due("get row 3", x.get(3, 0), VOID);
        due("get row -1", x.get(-1, 0), VOID);
        due("lay row 3", x.lay(3, 0, 0), -1);
        due("lay row -1", x.lay(-1, 0, 0), -1);
        due("row 41", x.row(1, 41), -1);
        due("row most", x.row(1, Integer.MAX_VALUE), -1);
        due("row -2", x.row(1, -2), -14);
        due("row least", x.row(1, Integer.MIN_VALUE), -14);
        due("row 3", x.row(3, -2), -1);
        due("row -1", x.row(-1, 0), -1);
        due("refused: as it was", x.get(1, 39), Integer.MIN_VALUE);
        due("anew", x.row(1, 40), 1);
        due("all 0", x.get(1, 39), 0);
        due("missing", x.row(1, -1), 1);
        due("missing", x.row(1, -1), 1);
        due("one", x.count(5), 1);
    }

    private static void copying() {
        QuasiSums x = new QuasiSums();
        lay(x, 0, 1, 2, 3, 4, 5);
        lay(x, 1, 6, 7, 8);
        due("copy", x.copy(0, 1, 1, 0, 3), 3);
        dueRow("copied", x, 1, 2, 3, 4);
        due("copy behind", x.copy(0, 0, 0, 1, 4), 4);
        dueRow("as they were", x, 0, 1, 1, 2, 3, 4);
        due("copy ahead", x.copy(0, 1, 0, 0, 4), 4);
        dueRow("as they were", x, 0, 1, 2, 3, 4, 4);
        due("none", x.copy(0, 5, 1, 3, 0), 0);
        due("behind the end", x.copy(0, 6, 1, 0, 0), -13);
        due("behind the other's end", x.copy(0, 0, 1, 4, 0), -13);
        due("too many", x.copy(0, 3, 1, 0, 3), -13);
        due("too many there", x.copy(0, 0, 1, 1, 3), -13);
        due("n below 0", x.copy(0, 2, 1, 2, -1), -13);
        due("n least", x.copy(0, 2, 1, 2, Integer.MIN_VALUE), -13);
        due("n most", x.copy(0, 2, 1, 2, Integer.MAX_VALUE), -13);
        due("i most", x.copy(0, Integer.MAX_VALUE, 1, 0, 2), -13);
        due("j most", x.copy(0, 0, 1, Integer.MAX_VALUE, 2), -13);
        due("i below 0", x.copy(0, -1, 1, 0, 1), -13);
        due("j below 0", x.copy(0, 0, 1, -1, 1), -13);
        due("missing", x.copy(2, -1, 0, 0, 1), -11);
        due("missing", x.copy(0, -1, 2, 0, 1), -11);
        due("row 3", x.copy(3, 0, 2, 0, 1), -1);
        due("other 3", x.copy(2, 0, 3, 0, 1), -1);
        due("row -1", x.copy(-1, 0, 0, 0, 1), -1);
        due("other -1", x.copy(0, 0, -1, 0, 1), -1);
        dueRow("refused: as it was", x, 0, 1, 2, 3, 4, 4);
        dueRow("refused: as it was", x, 1, 2, 3, 4);
    }

    private static void filming() {
        QuasiSums x = new QuasiSums();
        due("empty row", x.film(1, 0), 0);
        due("holds no place", x.get(1, 0), VOID);
        due("held", x.count(5), 1);
        due("one row alone", x.film(1, 1), -2);
        x.order(3);
        x.below(3, 1);
        lay(x, 0, 9, 9, 9, 9, 9);
        due("film", x.film(0, 2), 3);
        dueRow("film", x, 0, 3, 2, 1);
        due("film", x.film(0, 0), 3);
        dueRow("film", x, 0, 2, 3, 1);
        due("no row 3", x.film(0, 3), -2);
        due("k -1", x.film(0, -1), -1);
        due("row 3", x.film(3, 9), -1);
        due("row -1", x.film(-1, 0), -1);
        due("no step", x.count(0), 0);
    }

    private static void judging() {
        QuasiSums x = new QuasiSums();
        due("missing", x.judge(0), -11);
        due("row 3", x.judge(3), -1);
        due("row -1", x.judge(-1), -1);
        lay(x, 0, 8, 8);
        due("nothing to look at", x.judge(0), -2);
        x.order(3);
        x.below(3, 1);
        x.row(1, 0);
        due("no place yet", x.judge(1), 100);
        due("no thing", x.judge(0), 0);
        lay(x, 0, 3, 2, 1);
        due("well", x.judge(0), -2);
        lay(x, 0, 2, 3, 1, 77, -4);
        due("well, more behind", x.judge(0), -2);
        lay(x, 0, 2, 1, 3);
        due("below not told", x.judge(0), 1);
        lay(x, 0, 2, 2, 3);
        due("told ahead", x.judge(0), 1);
        lay(x, 0, 3, 1, 0);
        due("0 is no thing", x.judge(0), 2);
        lay(x, 0, 3, 1, 4);
        due("4 is no thing", x.judge(0), 2);
        lay(x, 0, 3, 1, Integer.MIN_VALUE);
        due("least is no thing", x.judge(0), 2);
        lay(x, 0, 3, 33, 1);
        due("33 is no thing", x.judge(0), 1);
        lay(x, 0, 3, 1);
        due("well so far", x.judge(0), 102);
        lay(x, 0, 2, 1);
        due("not well so far", x.judge(0), 1);
        x.order(6);
        for (int k = 0; k < 720; k += 97) {
            x.film(2, k);
            due("a row of it", x.judge(2), -2);
        }
    }

    public static void main(String[] args) {
        storing();
        fetching();
        rows();
        copying();
        filming();
        judging();
        finish();
    }
}
