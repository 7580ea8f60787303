// The boundary cases of why (promise 37): a test for each sentence of ../shared/DOC.md that names one.
public final class ReasonEdgesTest extends Bench {
    static void noneAtFirst() {
        says("WHY tells of the latest call that was OVER, or of a read() that was refused (none at first)");
        QuasiSums x = new QuasiSums();
        due("TROUBLES", x.count(2), 0);
        due("sort", x.why(0, 0), NOT);
        due("number", x.why(0, 1), NOT);
    }

    static void whyBad() {
        says("why: BAD: i below 0, what");
        QuasiSums x = new QuasiSums();
        for (int n = 0; n < 2; n++) {
            for (int i : new int[] {-1, -2, LEAST_INT}) {
                due("i " + i, x.why(i, 0), BAD);
            }
            for (int what : new int[] {-1, 2, LEAST_INT, MOST_INT}) {
                due("what " + what, x.why(0, what), BAD);
                due("what " + what + " ahead of NOT", x.why(2, what), BAD);
            }
            read(x, 0, "M(");
        }
    }

    static void whyNot() {
        says("why: NOT: there are not so many");
        QuasiSums x = new QuasiSums();
        read(x, 0, "M(");
        for (int i : new int[] {2, 3, MOST_INT}) {
            due("of a read, i " + i, x.why(i, 1), NOT);
        }
        with(x, 0, 0, MOST).fundamental(0, 0, 1);
        for (int i : new int[] {1, 2, MOST_INT}) {
            due("of OVER, i " + i, x.why(i, 1), NOT);
        }
    }

    static void causes() {
        says("TROUBLES, each but the last with a CAUSE behind it (one of OVER, two of a read)");
        QuasiSums x = with(0, 0, MOST);
        x.fundamental(0, 0, 1);
        due("of OVER", x.count(2), 1);
        x.read(0);
        due("of a read", x.count(2), 2);
        x.fundamental(0, 0, 1);
        due("of OVER again", x.count(2), 1);
    }

    static void theLatest() {
        says("WHY tells of the latest call");
        QuasiSums x = with(0, 1, MOST);
        read(x, 1, "M(1)+");
        dueTroubles(x, 1, 1, 5);
        dueOver(x, "fundamental", x.fundamental(0, 0, 1), 0);
        read(x, 1, "M(6,1)");
        dueTroubles(x, 0, 3, 7);
        dueVoid(x, "counts", x.counts(0, 2), 0);
    }

    static void othersLeaveIt() {
        says("WHY tells of the latest call that was OVER, or of a read() that was refused (no other call changes it)");
        QuasiSums x = with(0, 1, MOST);
        read(x, 1, "M(1)+M(2)");
        x.put(9, 0, 1);
        x.sum(1, 0, 1);
        x.multiply(2, 9, 0);
        x.back();
        x.back();
        x.below(1, 1);
        x.get(0, 0);
        x.feed(0);
        x.restore();
        x.image();
        x.restore();
        read(x, 1, "M(1)");
        x.wipe();
        x.counts(0, 21);
        dueTroubles(x, 1, 3, 2);
    }

    static void badRegister() {
        says("By BAD of the REGISTER WHY stays as well as THE TAPE");
        QuasiSums x = new QuasiSums();
        feed(x, "M(");
        due("read", x.read(4), BAD);
        due("none still", x.count(2), 0);
        due("THE TAPE", x.count(1), 2);
        due("read", x.read(0), -102);
        feed(x, "x");
        due("read", x.read(-1), BAD);
        dueTroubles(x, 0, 1, 2);
    }

    static void faultsOfTerms() {
        says("the number of the TERM (from 0) in which it stands");
        QuasiSums x = new QuasiSums();
        read(x, 0, "x");
        dueTroubles(x, 0, 1, 0);
        read(x, 0, "M(1)+M(x");
        dueTroubles(x, 1, 1, 7);
        read(x, 0, "M(1)+M(2)+12345M(3)");
        dueTroubles(x, 2, 1, 14);
        read(x, 0, TWENTY.substring(0, 78));
        dueTroubles(x, 19, 1, 78);
    }

    static void faultBehindTerm() {
        says("(a FAULT right behind a TERM: that of this one)");
        QuasiSums x = new QuasiSums();
        read(x, 0, "M(1)x");
        dueTroubles(x, 0, 1, 4);
        read(x, 0, "M(1)+M(2)x");
        dueTroubles(x, 1, 1, 9);
    }

    static void termThatLacks() {
        says("Of a FAULT at the end, behind a + or -, the TERM is the one that lacks");
        QuasiSums x = new QuasiSums();
        read(x, 0, "M(1)+");
        dueTroubles(x, 1, 1, 5);
        read(x, 0, "M(1)+M(2)-");
        dueTroubles(x, 2, 1, 10);
        read(x, 0, TWENTY + "-");
        dueTroubles(x, 20, 1, 80);
    }

    static void emptyTape() {
        says("read: -100 less the FAULT (of no bytes)");
        QuasiSums x = new QuasiSums();
        due("read", x.read(0), -100);
        dueTroubles(x, 0, 1, 0);
    }

    static void unlikeTerms() {
        says("of sort 3 with what the TERM's numbers are together (of the first TERM that is UNLIKE)");
        QuasiSums x = new QuasiSums();
        read(x, 0, "M(6,1)+M(6,2)");
        dueTroubles(x, 0, 3, 7);
        read(x, 0, "M(2)-M(1,1)+M()-M(3)");
        dueTroubles(x, 2, 3, 0);
        read(x, 0, "M()+M(1)");
        dueTroubles(x, 1, 3, 1);
        StringBuilder text = new StringBuilder("M(6");
        while (text.length() < 79) {
            text.append(",6");
        }
        read(x, 0, text + ")");
        dueTroubles(x, 0, 3, 234);
    }

    static void overOfEachCall() {
        says("of sort 4, where it was OVER, with the COMPOSITION (bits) that came to be too great");
        QuasiSums x = with(0, 2, 0, MOST);
        with(x, 1, 0, -2);
        dueOver(x, "fundamental", x.fundamental(0, 0, 1), 1);
        dueOver(x, "sum", x.sum(2, 0, 0), 1);
        dueOver(x, "multiply", x.multiply(2, 1, 0), 100);
        dueOver(x, "multiply", x.multiply(2, 0, 1), 101);
        dueVoid(x, "counts", x.counts(0, 3), 1);
        with(x, 0, 2, -1, MOST);
        dueVoid(x, "inF", x.inF(0, 1), 1);
        dueOver(x, "antipode", x.antipode(2, 0), 0);
    }

    public static void main(String[] args) {
        testSentences(ReasonEdgesTest.class);
    }
}
