// The boundary cases of the tape and its texts (promises 34 to 36): a test for each sentence of ../shared/DOC.md that names one.
public final class TextEdgesTest extends Bench {
    private static void dueRead(String text, int want) {
        due("read of " + text, read(new QuasiSums(), 0, text), want);
    }

    static void bytes() {
        says("feed: BAD (THE TAPE holds bytes 32 .. 126)");
        QuasiSums x = new QuasiSums();
        for (int letter : new int[] {31, 127, 0, -1, 128, 256 + 'M', LEAST_INT, MOST_INT}) {
            due("byte " + letter, x.feed(letter), BAD);
        }
        due("none", x.count(1), 0);
        due("byte 32", x.feed(32), 1);
        due("byte 126", x.feed(126), 2);
    }

    static void full() {
        says("feed: FULL: it has 80");
        QuasiSums x = new QuasiSums();
        for (int n = 1; n <= 80; n++) {
            due("byte " + n, x.feed(' '), n);
        }
        due("one more", x.feed(' '), FULL);
        due("BAD ahead of FULL", x.feed(31), BAD);
        due("as it was", x.count(1), 80);
        due("wipe", x.wipe(), 80);
        due("room again", x.feed(' '), 1);
    }

    static void wiped() {
        says("wipe: THE TAPE is empty: how many it had");
        QuasiSums x = new QuasiSums();
        due("none", x.wipe(), 0);
        feed(x, "M(1)");
        due("four", x.wipe(), 4);
        due("none again", x.wipe(), 0);
        due("read of none", x.read(0), -100);
    }

    static void readBad() {
        says("THE TAPE is empty behind each call that reads it (BAD of the REGISTER: it stays)");
        QuasiSums x = new QuasiSums();
        feed(x, "3M(1)");
        for (int r : new int[] {-1, 4, LEAST_INT, MOST_INT}) {
            due("r " + r, x.read(r), BAD);
            due("it stays", x.count(1), 5);
        }
        due("as it was", x.read(3), 1);
        due("as it was", x.of(3, 0), 3);
        due("empty", x.count(1), 0);
    }

    static void emptyBehind() {
        says("THE TAPE is empty behind each call that reads it, also where it is refused");
        QuasiSums x = new QuasiSums();
        String[] texts = {"M(1)", "M(1", "M(7)", "M(6,6)", "M(1)+M(2)"};
        int[] want = {1, -103, -102, STATE, STATE};
        for (int i = 0; i < texts.length; i++) {
            due(texts[i], read(x, 0, texts[i]), want[i]);
            due("behind " + texts[i], x.count(1), 0);
            due("read once more", x.read(1), -100);
        }
    }

    static void oneOrMore() {
        says("A TEXT is a SUM: TERMS, one or more");
        dueRead("", -100);
        dueRead("M(1)", 1);
        dueRead("M(1)+M(1)", 1);
        QuasiSums x = new QuasiSums();
        due("twenty", read(x, 0, "2" + TWENTY), 0);
        dueNumbers(x, 0, 2 - 19);
    }

    static void signs() {
        says("with + or - between");
        dueRead("M(1)M(1)", -104);
        dueRead("M(1)*M(1)", -104);
        dueRead("M(1),M(1)", -104);
        dueRead("M(1)++M(1)", -105);
        dueRead("M(1)-+M(1)", -105);
        dueRead("M(1) +M(1)", -104);
        QuasiSums x = new QuasiSums();
        due("both", read(x, 0, "5M(1)+4M(1)-2M(1)"), 1);
        dueNumbers(x, 0, 7);
    }

    static void signAhead() {
        says("A sign ahead of the first TERM is a FAULT");
        for (String sign : new String[] {"+", "-"}) {
            QuasiSums x = new QuasiSums();
            due("read of " + sign + "M(1)", read(x, 0, sign + "M(1)"), -100);
            dueTroubles(x, 0, 1, 0);
        }
    }

    static void figures() {
        says("perhaps 1 to 4 figures (else 1)");
        QuasiSums x = new QuasiSums();
        String[] texts = {"M(1)", "0M(1)", "7M(1)", "0000M(1)", "0009M(1)", "1234M(1)", "9999M(1)"};
        long[] want = {1, 0, 7, 0, 9, 1234, 9999};
        for (int i = 0; i < texts.length; i++) {
            due(texts[i], read(x, 0, texts[i]), 1);
            dueNumbers(x, 0, want[i]);
        }
        dueRead("12345M(1)", -104);
        dueRead("00000M(1)", -104);
        dueRead("/M(1)", -100);
        dueRead(":M(1)", -100);
        dueRead("1 M(1)", -101);
        dueRead("M(1)+12345M(1)", -109);
    }

    static void letters() {
        says("then M or F");
        dueRead("F(1)", 1);
        for (String letter : new String[] {"L", "N", "E", "G", "m", "f", " ", "("}) {
            dueRead(letter + "(1)", -100);
            dueRead("12" + letter + "(1)", -102);
        }
        dueRead("MF(1)", -101);
    }

    static void brackets() {
        says("then ( and a COMPOSITION, and )");
        dueRead("M1)", -101);
        dueRead("M)", -101);
        dueRead("M((1)", -102);
        dueRead("M(1(", -103);
        dueRead("M(1))", -104);
        dueRead("M())", -103);
        dueRead("M[1]", -101);
    }

    static void numbers() {
        says("its numbers (each a figure 1 .. 6)");
        for (int n = 1; n <= 6; n++) {
            dueRead("M(" + n + ")", n);
        }
        for (String none : new String[] {"0", "7", "8", "9", "-1", "+1", " 1", "M"}) {
            dueRead("M(" + none + ")", -102);
            dueRead("M(1," + none + ")", -104);
        }
        dueRead("M(11)", -103);
        dueRead("M(1 )", -103);
    }

    static void commas() {
        says("with a comma between");
        dueRead("M(1,2,3)", 6);
        dueRead("M(,1)", -102);
        dueRead("M(,)", -102);
        dueRead("M(1,)", -104);
        dueRead("M(1,,1)", -104);
        dueRead("M(1;1)", -103);
    }

    static void noNumbers() {
        says("or none");
        QuasiSums x = with(0, 2, 5, 6);
        due("M()", read(x, 0, "M()"), 0);
        dueNumbers(x, 0, 1);
        due("F()", read(x, 0, "7F()"), 0);
        dueNumbers(x, 0, 7);
    }

    static void tooEarly() {
        says("FAULT: or the length, if it ends too early");
        String text = "1234F(1,2)-56M(3)";
        for (int length = 0; length < text.length(); length++) {
            dueRead(text.substring(0, length), length == 10 ? 3 : -100 - length);
        }
        dueRead(text, 3);
        dueRead(TWENTY + "+", -180);
    }

    static void faultFirst() {
        says("the whole text is looked at for a FAULT first");
        dueRead("M(6,6)-M(1", -110);
        dueRead("M(1)+M(2)+", -110);
        dueRead("M(1)+M(2)x", -109);
    }

    static void unlike() {
        says("UNLIKE: a TERM of which the numbers are together above 6, or not as those of the first TERM: -5");
        dueRead("M(6)", 6);
        dueRead("M(1,5)+F(2,2,2)", 6);
        dueRead("M(6,1)", STATE);
        dueRead("M(1,6)", STATE);
        dueRead("M(6,6)+M(6,6)", STATE);
        dueRead("M(5)+M(6)", STATE);
        dueRead("M(6)+M(5)", STATE);
        dueRead("M()+M(1)", STATE);
        dueRead("M(1)+0M()", STATE);
        dueRead("M(6)+M(6,6)", STATE);
    }

    static void fromNothing() {
        says("In a TEXT all TERMS come to 0 everywhere, one behind the other");
        QuasiSums x = with(0, 2, MOST, LEAST);
        due("the same WEIGHT", read(x, 0, "M(2)-3M(2)"), 2);
        dueNumbers(x, 0, -2, 0);
    }

    static void ofF() {
        says("of F to each FINER one; -: the number with the other sign");
        QuasiSums x = new QuasiSums();
        due("read", read(x, 0, "9999F(3)-9998F(2,1)-M(1,2)-0F(1,1,1)"), 3);
        dueNumbers(x, 0, 9999, 9998, 1, 1);
    }

    static void refusedLeaves() {
        says("read: refusals (nothing changes): the REGISTER");
        QuasiSums x = with(0, 2, 5, 6);
        for (String text : new String[] {"", "M(2", "M(2)+M(1)", "M(6,6)"}) {
            read(x, 0, text);
            dueNumbers(x, 0, 5, 6);
        }
    }

    public static void main(String[] args) {
        testSentences(TextEdgesTest.class);
    }
}
