// The boundary cases of rows (promises 27 to 32): a test for each sentence of ../shared/DOC.md that names one.
public final class RowEdgesTest extends Bench {
    private static final int[] NO_ROW = {-1, 3, LEAST_INT, MOST_INT};

    static void missingAtFirst() {
        says("ROWS 0 .. 2 are missing (at first): -11 it is missing");
        QuasiSums x = new QuasiSums();
        due("none", x.count(5), 0);
        for (int row = 0; row < 3; row++) {
            due("get", x.get(row, 0), VOID);
            due("lay", x.lay(row, 0, 1), -11);
            due("judge", x.judge(row), -11);
            due("store", x.store(1, 0, 1, row), -11);
            due("copy", x.copy(row, 0, row, 0, 0), -11);
        }
    }

    static void sizes() {
        says("row: A ROW holds n ints (0 .. 40), all 0. BAD: row, n above 40");
        QuasiSums x = new QuasiSums();
        for (int n : new int[] {41, 42, MOST_INT}) {
            due("n " + n, x.row(0, n), BAD);
        }
        for (int row : NO_ROW) {
            due("row " + row, x.row(row, 0), BAD);
            due("row " + row + " ahead of -14", x.row(row, -2), BAD);
        }
        due("none", x.count(5), 0);
        due("0", x.row(2, 0), 1);
        due("no place", x.get(2, 0), VOID);
        due("40", x.row(2, 40), 1);
        for (int i = 0; i < 40; i++) {
            due("place " + i, x.get(2, i), 0);
        }
        due("place 40", x.get(2, 40), VOID);
        x.lay(2, 39, 5);
        due("41", x.row(2, 41), BAD);
        due("as it was", x.get(2, 39), 5);
        due("anew", x.row(2, 40), 1);
        due("all 0", x.get(2, 39), 0);
    }

    static void sizeBelow() {
        says("row: -14: n below -1 (a size below 0)");
        QuasiSums x = new QuasiSums();
        lay(x, 0, 5);
        due("n -2", x.row(0, -2), -14);
        due("n least", x.row(0, LEAST_INT), -14);
        dueRow(x, 0, 5);
    }

    static void missingAgain() {
        says("row: or is missing (n -1): 1");
        QuasiSums x = new QuasiSums();
        due("missing as it was", x.row(0, -1), 1);
        x.row(0, 3);
        due("there", x.count(5), 1);
        due("missing again", x.row(0, -1), 1);
        due("none", x.count(5), 0);
        due("get", x.get(0, 0), VOID);
        due("lay", x.lay(0, 0, 1), -11);
    }

    static void layRefused() {
        says("lay: BAD; -11; -13");
        QuasiSums x = new QuasiSums();
        for (int row : NO_ROW) {
            due("row " + row, x.lay(row, 0, 1), BAD);
        }
        due("missing, ahead of -13", x.lay(0, -1, 1), -11);
        x.row(0, 0);
        due("no place", x.lay(0, 0, 1), -13);
        x.row(0, 40);
        for (int i : new int[] {-1, 40, LEAST_INT, MOST_INT}) {
            due("place " + i, x.lay(0, i, 1), -13);
        }
        due("place 0", x.lay(0, 0, LEAST_INT), 1);
        due("place 39", x.lay(0, 39, MOST_INT), 1);
        due("the least int", x.get(0, 0), LEAST_INT);
        due("the most", x.get(0, 39), MOST_INT);
        due("next to it", x.get(0, 1), 0);
    }

    static void getVoid() {
        says("get: VOID: no such ROW, missing, no such place");
        QuasiSums x = new QuasiSums();
        lay(x, 1, 5, 6);
        for (int row : NO_ROW) {
            due("row " + row, x.get(row, 0), VOID);
        }
        due("missing", x.get(0, 0), VOID);
        for (int i : new int[] {-1, 2, LEAST_INT, MOST_INT}) {
            due("place " + i, x.get(1, i), VOID);
        }
        due("the last place", x.get(1, 1), 6);
    }

    static void copyBad() {
        says("copy: BAD: rows; -11: either");
        QuasiSums x = new QuasiSums();
        lay(x, 1, 5);
        for (int row : NO_ROW) {
            due("row " + row + " ahead of -11", x.copy(row, 0, 0, 0, 1), BAD);
            due("other " + row + " ahead of -11", x.copy(0, 0, row, 0, 1), BAD);
            due("row " + row, x.copy(row, 0, 1, 0, 1), BAD);
            due("other " + row, x.copy(1, 0, row, 0, 1), BAD);
        }
        due("row missing, ahead of -13", x.copy(0, 0, 1, 0, -1), -11);
        due("other missing, ahead of -13", x.copy(1, 0, 0, 0, -1), -11);
        due("both missing", x.copy(0, 0, 2, 0, 0), -11);
    }

    static void copyOutside() {
        says("copy: -13 (n below 0, too)");
        QuasiSums x = new QuasiSums();
        lay(x, 0, 1, 2, 3);
        lay(x, 1, 4, 5);
        for (int n : new int[] {-1, 3, 4, LEAST_INT, MOST_INT}) {
            due("n " + n, x.copy(0, 0, 1, 0, n), -13);
            due("n " + n, x.copy(1, 0, 0, 0, n), -13);
        }
        for (int i : new int[] {-1, 2, 3, LEAST_INT, MOST_INT}) {
            due("i " + i, x.copy(0, i, 1, 0, 2), -13);
            due("j " + i, x.copy(1, 0, 0, i, 2), -13);
        }
        due("n -1 at 1", x.copy(0, 1, 1, 1, -1), -13);
        dueRow(x, 0, 1, 2, 3);
        dueRow(x, 1, 4, 5);
        due("all that fits", x.copy(0, 1, 1, 0, 2), 2);
        dueRow(x, 1, 2, 3);
    }

    static void copyNone() {
        says("copy: n places of a ROW: n (none)");
        QuasiSums x = new QuasiSums();
        lay(x, 0, 1, 2);
        x.row(1, 0);
        due("none from the start", x.copy(0, 0, 1, 0, 0), 0);
        due("none from the end", x.copy(0, 2, 1, 0, 0), 0);
        due("none from behind the end", x.copy(0, 3, 1, 0, 0), -13);
        due("none to behind the end", x.copy(0, 0, 1, 1, 0), -13);
        due("none from ahead of the start", x.copy(0, -1, 1, 0, 0), -13);
        due("none to ahead of the start", x.copy(0, 0, 1, -1, 0), -13);
        dueRow(x, 0, 1, 2);
    }

    static void copySame() {
        says("COPIED: places of a ROW to another one (or the same, as they were)");
        QuasiSums x = new QuasiSums();
        lay(x, 0, 1, 2, 3, 4);
        due("further behind", x.copy(0, 0, 0, 1, 3), 3);
        dueRow(x, 0, 1, 1, 2, 3);
        due("further ahead", x.copy(0, 1, 0, 0, 3), 3);
        dueRow(x, 0, 1, 2, 3, 3);
        due("the same places", x.copy(0, 0, 0, 0, 4), 4);
        dueRow(x, 0, 1, 2, 3, 3);
    }

    static void copyLong() {
        says("long rows copied (0 .. 40 ints)");
        QuasiSums x = new QuasiSums();
        x.row(0, 40);
        x.row(2, 40);
        for (int i = 0; i < 40; i++) {
            x.lay(0, i, i * i);
        }
        due("all", x.copy(0, 0, 2, 0, 40), 40);
        for (int i = 0; i < 40; i++) {
            due("place " + i, x.get(2, i), i * i);
        }
        due("one more", x.copy(0, 0, 2, 0, 41), -13);
        x.lay(2, 0, 7);
        due("the other one stays", x.get(0, 0), 0);
    }

    static void filmBad() {
        says("film: BAD: row, k below 0; NOT");
        QuasiSums x = ordered(3, 3, 2);
        for (int row : NO_ROW) {
            due("row " + row, x.film(row, 0), BAD);
            due("row " + row + " ahead of NOT", x.film(row, 3), BAD);
        }
        for (int k : new int[] {-1, -2, LEAST_INT}) {
            due("k " + k, x.film(0, k), BAD);
        }
        for (int k : new int[] {3, 4, MOST_INT}) {
            due("k " + k, x.film(0, k), NOT);
        }
        due("missing still", x.count(5), 0);
        due("the last one", x.film(2, 2), 3);
        dueRow(x, 2, 3, 2, 1);
    }

    static void filmMakes() {
        says("film() of a row makes a ROW of it");
        QuasiSums x = ordered(2);
        due("a missing one", x.film(0, 1), 2);
        dueRow(x, 0, 2, 1);
        x.row(0, 40);
        due("a longer one", x.film(0, 0), 2);
        dueRow(x, 0, 1, 2);
        x.order(0);
        due("of no THINGS", x.film(0, 0), 0);
        dueRow(x, 0);
        due("it is not missing", x.count(5), 1);
        due("just one", x.film(0, 1), NOT);
    }

    static void judgeRefused() {
        says("judge: BAD; -11");
        QuasiSums x = ordered(2);
        for (int row : NO_ROW) {
            due("row " + row, x.judge(row), BAD);
        }
        due("missing", x.judge(2), -11);
        x.order(0);
        due("missing, no THINGS", x.judge(2), -11);
    }

    static void judgeNothing() {
        says("A ROW is JUDGED so if there is nothing to look at");
        QuasiSums x = new QuasiSums();
        x.row(0, 0);
        due("no ints, no THINGS", x.judge(0), -2);
        lay(x, 0, 9, 9);
        due("no THINGS", x.judge(0), -2);
        x.order(6);
        x.row(0, 0);
        due("no ints", x.judge(0), 100);
    }

    static void judgeNoThing() {
        says("the first place (from 0) that tells no THING");
        QuasiSums x = ordered(3);
        for (int v : new int[] {0, 4, -1, 33, LEAST_INT, MOST_INT}) {
            lay(x, 0, v, 1, 2);
            due(v + " first", x.judge(0), 0);
            lay(x, 0, 1, 2, v);
            due(v + " last", x.judge(0), 2);
        }
    }

    static void judgeToldAhead() {
        says("one told ahead");
        QuasiSums x = ordered(3);
        lay(x, 0, 1, 1, 2);
        due("right ahead", x.judge(0), 1);
        lay(x, 0, 3, 1, 3);
        due("at first", x.judge(0), 2);
    }

    static void judgeBelow() {
        says("or one BELOW which some THING stands that is not told yet");
        QuasiSums x = ordered(3, 3, 1, 3, 2);
        lay(x, 0, 1, 2, 3);
        due("at once", x.judge(0), 0);
        lay(x, 0, 3, 1, 2);
        due("well", x.judge(0), -2);
        x = ordered(3, 3, 1, 2, 1);
        lay(x, 0, 3, 1, 2);
        due("one of two is told", x.judge(0), 1);
        lay(x, 0, 2, 3, 1);
        due("both are told", x.judge(0), -2);
    }

    static void judgeHarmless() {
        says("A ROW's THINGS that are BELOW none come to no harm");
        QuasiSums x = ordered(3, 1, 2);
        lay(x, 0, 3, 1, 2);
        due("3 first", x.judge(0), -2);
        lay(x, 0, 1, 2, 3);
        due("3 last", x.judge(0), -2);
        lay(x, 0, 3, 2, 1);
        due("2 ahead of 1", x.judge(0), 1);
    }

    static void judgeFirstPlaces() {
        says("it tells a row of THINGS by its first p places; -2: none");
        QuasiSums x = ordered(2);
        lay(x, 0, 2, 1, 2, 0, 77);
        due("more places", x.judge(0), -2);
        lay(x, 0, 2, 2, 1);
        due("a place of the first two", x.judge(0), 1);
        lay(x, 0, 2, 1);
        due("just as many", x.judge(0), -2);
    }

    static void judgeFewer() {
        says("100 and its size, if it has fewer than p and is well so far");
        QuasiSums x = ordered(6);
        for (int n = 0; n <= 6; n++) {
            x.row(0, n);
            for (int i = 0; i < n; i++) {
                x.lay(0, i, 6 - i);
            }
            due(n + " places", x.judge(0), n == 6 ? -2 : 100 + n);
        }
        lay(x, 0, 1, 2, 7);
        due("not well", x.judge(0), 2);
    }

    public static void main(String[] args) {
        testSentences(RowEdgesTest.class);
    }
}
