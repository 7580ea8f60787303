// Promises 33 to 40: steps taken back, the tape, texts with reasons, the image, what is counted.
public final class TextsTest extends Bench {
    private static void dueFault(String text, int fault, int term) {
        QuasiSums x = new QuasiSums();
        due(text, read(x, 0, text), -100 - fault);
        dueTroubles(text, x, term, 1, fault);
        due(text + ": tape", x.count(1), 0);
        due(text + ": steps", x.count(0), 0);
    }

    private static void dueUnlike(String text, int term, int together) {
        QuasiSums x = new QuasiSums();
        due(text, read(x, 0, text), -5);
        dueTroubles(text, x, term, 3, together);
        due(text + ": tape", x.count(1), 0);
        due(text + ": weight", x.told(0, 0), 0);
        due(text + ": steps", x.count(0), 0);
    }

    private static void steps() {
        QuasiSums x = new QuasiSums();
        due("none", x.back(), -5);
        x.zero(0, 2);
        x.put(0, 1, 5);
        x.fundamental(0, 0, 3);
        x.sum(1, 0, 0);
        x.multiply(2, 0, 1);
        x.antipode(3, 0);
        x.made(2);
        due("seven", x.count(0), 7);
        due("back made", x.back(), 6);
        due("back made", x.told(2, 0), 4);
        due("back antipode", x.back(), 5);
        due("back antipode", x.told(3, 0), 0);
        due("back multiply", x.back(), 4);
        due("back multiply", x.told(2, 0), 0);
        due("back sum", x.back(), 3);
        due("back sum", x.told(1, 0), 0);
        due("back fundamental", x.back(), 2);
        dueNumbers("back fundamental", x, 0, 0, 5);
        due("back put", x.back(), 1);
        dueNumbers("back put", x, 0, 0, 0);
        due("back zero", x.back(), 0);
        due("back zero", x.told(0, 0), 0);
        due("none", x.back(), -5);
        due("read", read(x, 0, "M(2)"), 2);
        x.store(0, 0, 0, 0);
        x.fetch(0, 0, 3);
        due("two", x.count(0), 2);
        due("back fetch", x.back(), 1);
        due("back fetch", x.told(3, 0), 0);
        due("back read", x.back(), 0);
        due("back read", x.told(0, 0), 0);
        due("the rack stays", x.holds(0, 0), 0);
    }

    private static void mostSteps() {
        QuasiSums x = new QuasiSums();
        for (int v = 1; v <= 9; v++) {
            x.put(0, 0, v);
            due("steps", x.count(0), Math.min(v, 8));
        }
        for (int left = 7; left >= 0; left--) {
            due("back", x.back(), left);
            due("number", x.of(0, 0), left + 1);
        }
        due("the eldest is none any more", x.back(), -5);
        due("first stays", x.of(0, 0), 1);
        x.put(0, 0, Long.MAX_VALUE);
        due("over is no step", x.fundamental(0, 0, 1), -9);
        due("refused is no step", x.put(0, 1, 1), -1);
        due("one", x.count(0), 1);
        due("back leaves why", x.back(), 0);
        due("back leaves why", x.count(2), 1);
    }

    // A register as it was: nothing made otherwise, so no step; the same with other numbers is one.
    private static void dueNoStep(String call, QuasiSums x, long got, long want) {
        due(call, got, want);
        due(call + ": no step", x.count(0), 0);
        due(call + ": nothing to take back", x.back(), -5);
    }

    private static void dueOneStep(String call, QuasiSums x, long got, long want) {
        due(call, got, want);
        due(call + ": a step", x.count(0), 1);
        due(call + ": taken back", x.back(), 0);
    }

    // An image that is restored leaves no steps: so what is made ahead of it does not count.
    private static QuasiSums withoutSteps(String text) {
        QuasiSums x = new QuasiSums();
        if (!text.isEmpty()) {
            read(x, 0, text);
        }
        x.image();
        x.restore();
        return x;
    }

    private static void zeroAsItWas() {
        QuasiSums x = withoutSteps("");
        dueNoStep("zero", x, x.zero(0, 0), 0);
        dueOneStep("zero of another weight", x, x.zero(0, 1), 0);
        QuasiSums heavy = withoutSteps("M(6)-M(6)");
        dueNoStep("zero of 6", heavy, heavy.zero(0, 6), 6);
        QuasiSums light = withoutSteps("M(1)-M(1)");
        dueOneStep("zero of 0", light, light.zero(0, 0), 1);
        QuasiSums last = withoutSteps("M(1,1,1,1,1,1)");
        dueOneStep("zero of the last number", last, last.zero(0, 6), 6);
        due("taken back", last.of(0, 31), 1);
    }

    private static void putAsItWas() {
        QuasiSums x = withoutSteps("5M(2,1)");
        dueNoStep("put", x, x.put(0, 2, 5), 1);
        dueNoStep("put 0", x, x.put(0, 3, 0), 1);
        dueOneStep("put the other sign", x, x.put(0, 2, -5), 1);
        dueOneStep("put above an int", x, x.put(0, 2, 5 + (1L << 32)), 1);
        x.put(0, 2, 6);
        dueStepsTwo(x);
    }

    private static void dueStepsTwo(QuasiSums x) {
        due("as it was two calls ahead", x.put(0, 2, 5), 1);
        due("both are steps", x.count(0), 2);
        due("back", x.back(), 1);
        due("back", x.of(0, 2), 6);
        due("back", x.back(), 0);
        due("back", x.of(0, 2), 5);
    }

    private static void fundamentalAsItWas() {
        QuasiSums x = withoutSteps("5M(2,1)");
        dueNoStep("fundamental", x, x.fundamental(0, 0, 0), 1);
        dueOneStep("fundamental of the finest", x, x.fundamental(0, 3, 1), 1);
        x.put(0, 2, Long.MAX_VALUE);
        due("0 times is no OVER", x.fundamental(0, 2, 0), 1);
        due("one step", x.count(0), 1);
    }

    private static void sumAsItWas() {
        QuasiSums x = withoutSteps("");
        dueNoStep("sum of 0", x, x.sum(0, 1, 2), 0);
        QuasiSums y = withoutSteps("4F(2)");
        y.zero(1, 2);
        y.image();
        y.restore();
        dueNoStep("0 comes to it", y, y.sum(0, 0, 1), 2);
        dueNoStep("it comes to 0", y, y.sum(0, 1, 0), 2);
        dueOneStep("it comes to 0 elsewhere", y, y.sum(1, 0, 1), 2);
        dueOneStep("twice", y, y.sum(0, 0, 0), 2);
    }

    private static void multiplyAsItWas() {
        QuasiSums x = withoutSteps("");
        dueNoStep("multiply 0", x, x.multiply(3, 1, 2), 0);
        QuasiSums y = withoutSteps("4F(2)-M(1,1)");
        y.put(1, 0, 1);
        y.image();
        y.restore();
        dueNoStep("1 times it", y, y.multiply(0, 1, 0), 2);
        dueNoStep("it times 1", y, y.multiply(0, 0, 1), 2);
        dueOneStep("itself", y, y.multiply(0, 0, 0), 4);
        dueOneStep("it times 0", y, y.multiply(0, 0, 2), 2);
    }

    private static void antipodeAsItWas() {
        QuasiSums x = withoutSteps("7M()");
        dueNoStep("antipode of weight 0", x, x.antipode(0, 0), 0);
        dueOneStep("antipode elsewhere", x, x.antipode(1, 0), 0);
        QuasiSums y = withoutSteps("M(2)+2M(1,1)");
        dueNoStep("its own antipode", y, y.antipode(0, 0), 2);
        QuasiSums z = withoutSteps("M(2)");
        dueOneStep("another antipode", z, z.antipode(0, 0), 2);
    }

    private static void madeAsItWas() {
        QuasiSums x = withoutSteps("M()");
        dueNoStep("made of no things", x, x.made(0), 0);
        dueOneStep("made elsewhere", x, x.made(1), 0);
        QuasiSums y = withoutSteps("F(2)+F(1,1)");
        y.order(2);
        dueNoStep("made of two things", y, y.made(0), 2);
        y.below(1, 2);
        dueOneStep("made of one below another one", y, y.made(0), 2);
    }

    private static void readAsItWas() {
        QuasiSums x = withoutSteps("3M(2,1)+M(3)");
        dueNoStep("read", x, read(x, 0, "M(3)+M(2,1)+2M(2,1)"), 3);
        due("the tape is empty", x.count(1), 0);
        dueOneStep("read another one", x, read(x, 0, "2M(2,1)+M(3)"), 3);
        dueNoStep("read 0", x, read(x, 3, "0M()"), 0);
    }

    private static void fetchAsItWas() {
        QuasiSums x = withoutSteps("3M(2,1)");
        x.store(0, 0, 0, 0);
        x.store(2, 3, 0, 1);
        dueNoStep("fetch where it came from", x, x.fetch(0, 0, 0), 0);
        dueNoStep("fetch what is like it", x, x.fetch(2, 3, 2), 0);
        dueOneStep("fetch elsewhere", x, x.fetch(0, 0, 1), 0);
        x.row(1, 2);
        x.store(1, 0, 1, 1);
        dueNoStep("fetch of a row", x, x.fetch(1, 0, 0), 1);
    }

    private static void nothingMadeOtherwise() {
        zeroAsItWas();
        putAsItWas();
        fundamentalAsItWas();
        sumAsItWas();
        multiplyAsItWas();
        antipodeAsItWas();
        madeAsItWas();
        readAsItWas();
        fetchAsItWas();
        QuasiSums x = new QuasiSums();
        for (int v = 1; v <= 8; v++) {
            x.put(0, 0, v);
        }
        x.put(0, 0, 8);
        x.zero(1, 0);
        due("eight", x.count(0), 8);
        for (int left = 7; left >= 0; left--) {
            due("back", x.back(), left);
            due("number", x.of(0, 0), left);
        }
        due("the eldest stays one", x.back(), -5);
    }

    private static void tape() {
        QuasiSums x = new QuasiSums();
        due("31", x.feed(31), -1);
        due("127", x.feed(127), -1);
        due("-1", x.feed(-1), -1);
        due("32 + 256", x.feed(32 + 256), -1);
        due("32", x.feed(32), 1);
        due("126", x.feed(126), 2);
        due("two", x.count(1), 2);
        due("wipe", x.wipe(), 2);
        due("wipe", x.wipe(), 0);
        for (int i = 1; i <= 80; i++) {
            due("feed", x.feed('M'), i);
        }
        due("full", x.feed('M'), -3);
        due("bad ahead of full", x.feed(0), -1);
        due("wipe", x.wipe(), 80);
        StringBuilder terms = new StringBuilder("M()");
        for (int n = 1; n < 20; n++) {
            terms.append("-M()");
        }
        due("80 bytes", read(x, 0, "2" + terms), 0);
        due("80 bytes", x.of(0, 0), 2 - 19);
        due("80 bytes, a term lacks", read(x, 0, terms + "+"), -180);
        dueTroubles("80 bytes, a term lacks", x, 20, 1, 80);
    }

    private static void texts() {
        QuasiSums x = new QuasiSums();
        due("one", read(x, 0, "M(1,2,1)"), 4);
        dueNumbers("one", x, 0, 0, 0, 0, 0, 0, 1, 0, 0);
        due("F", read(x, 0, "12F(2,1)-0003M(3)+0M(1,2)"), 3);
        dueNumbers("F", x, 0, -3, 0, 12, 12);
        due("F with -", read(x, 0, "M(1,1)-20F(2)"), 2);
        dueNumbers("F with -", x, 0, -20, -19);
        due("none", read(x, 0, "7M()-F()"), 0);
        dueNumbers("none", x, 0, 6);
        due("finest", read(x, 0, "9999M(1,1,1,1,1,1)"), 6);
        due("finest", x.of(0, 31), 9999);
        due("no why", x.count(2), 0);
        due("five steps", x.count(0), 5);
        x.feed('M');
        due("bad register", x.read(4), -1);
        due("bad register", x.read(-1), -1);
        due("the tape stays", x.wipe(), 1);
        due("why stays", x.count(2), 0);
    }

    private static void faults() {
        dueFault("", 0, 0);
        dueFault("+M(1)", 0, 0);
        dueFault("-M(1)", 0, 0);
        dueFault(" M(1)", 0, 0);
        dueFault("m(1)", 0, 0);
        dueFault("N(1)", 0, 0);
        dueFault("12", 2, 0);
        dueFault("12345M(1)", 4, 0);
        dueFault("1234", 4, 0);
        dueFault("M", 1, 0);
        dueFault("M1)", 1, 0);
        dueFault("MF(1)", 1, 0);
        dueFault("M(", 2, 0);
        dueFault("M(,1)", 2, 0);
        dueFault("M(0)", 2, 0);
        dueFault("M(7)", 2, 0);
        dueFault("M(9)", 2, 0);
        dueFault("M(-1)", 2, 0);
        dueFault("M(1", 3, 0);
        dueFault("M(11)", 3, 0);
        dueFault("M(1 )", 3, 0);
        dueFault("M(1,", 4, 0);
        dueFault("M(1,)", 4, 0);
        dueFault("M(1,,1)", 4, 0);
        dueFault("M(1,7)", 4, 0);
        dueFault("M(1)x", 4, 0);
        dueFault("M(1)M(1)", 4, 0);
        dueFault("M(1))", 4, 0);
        dueFault("M()3M()", 3, 0);
        dueFault("M(1)+", 5, 1);
        dueFault("M(1)-", 5, 1);
        dueFault("M(1)++M(1)", 5, 1);
        dueFault("M(1)+x", 5, 1);
        dueFault("M(1)-3", 6, 1);
        dueFault("M(1)-F(2)*", 9, 1);
        dueFault("M(1)-F(2)+M(", 12, 2);
        dueFault("M(6,6)+F(1)-12345M(1)", 16, 2);
    }

    private static void unlike() {
        dueUnlike("M(6,6)", 0, 12);
        dueUnlike("M(6,1)", 0, 7);
        dueUnlike("M(1,1,1,1,1,1,1)", 0, 7);
        dueUnlike("M(2)+F(1,1)-M(3)+M(4)", 2, 3);
        dueUnlike("M()+M(1)", 1, 1);
        dueUnlike("M(1)+M()", 1, 0);
        dueUnlike("M(1)+0M(6,6,6)", 1, 18);
        StringBuilder heavy = new StringBuilder("M(6");
        while (heavy.length() < 79) {
            heavy.append(",6");
        }
        dueUnlike(heavy.append(")").toString(), 0, 39 * 6);
        QuasiSums x = new QuasiSums();
        x.put(0, 0, Long.MAX_VALUE);
        x.fundamental(0, 0, 1);
        due("why of OVER", x.why(0, 0), 4);
        read(x, 0, "M(7");
        dueTroubles("the latest", x, 0, 1, 2);
        due("read well", read(x, 1, "M(1)"), 1);
        dueTroubles("read well leaves why", x, 0, 1, 2);
        x.counts(0, 3);
        due("counts of one is no OVER", x.count(2), 2);
        due("OVER again", x.fundamental(0, 0, 1), -9);
        due("one trouble", x.count(2), 1);
        due("why -1", x.why(-1, 0), -1);
        due("why what 2", x.why(0, 2), -1);
        due("why what -1", x.why(7, -1), -1);
        due("why 1", x.why(1, 1), -2);
        due("why most", x.why(Integer.MAX_VALUE, 1), -2);
    }

    private static void images() {
        QuasiSums x = new QuasiSums();
        due("none", x.restore(), -5);
        read(x, 0, "3M(2,1)");
        x.zero(3, 5);
        x.order(3);
        x.below(2, 3);
        x.warm(1, 0, 2);
        x.store(0, 1, 0, 0);
        x.row(0, 2);
        x.store(1, 2, 1, 0);
        due("image", x.image(), 8);
        due("image keeps steps", x.count(0), 2);
        x.put(0, 2, 4);
        x.zero(3, 1);
        x.order(2);
        x.below(1, 2);
        x.warm(1, 0, 2);
        x.warm(4, 0, 2);
        x.store(2, 3, 0, 3);
        x.lay(0, 1, 6);
        x.row(1, 1);
        x.feed('M');
        x.store(1, 2, 1, 0);
        due("OVER", x.multiply(1, 3, 3), 2);
        for (int n = 0; n < 2; n++) {
            due("restore", x.restore(), 8);
            due("no step", x.count(0), 0);
            due("no step", x.back(), -5);
            dueNumbers("restored", x, 0, 0, 0, 3, 0);
            due("restored", x.told(3, 0), 5);
            due("restored", x.told(1, 0), 0);
            due("things", x.count(4), 3);
            due("2 below 3", x.isBelow(2, 3), 1);
            due("1 not below 2", x.isBelow(1, 2), 0);
            due("3 not below 1", x.isBelow(3, 1), 0);
            due("cells", x.warmth(0), Float.floatToRawIntBits(1f));
            due("held", x.count(3), 2);
            due("the row as it was", x.fetch(1, 2, 2), 1);
            due("the row as it was", x.get(2, 1), 0);
            due("rows stay", x.get(0, 1), 6);
            due("rows stay", x.get(1, 0), 0);
            due("the tape stays", x.count(1), 1);
            x.warm(5, 0, 2);
            x.warm(1, 0, 0);
            x.zero(0, 1);
            due("below", x.below(3, 1), 3);
            x.store(2, 0, 0, 0);
        }
        x.zero(0, 6);
        due("another image", x.image(), 11);
        x.zero(0, 0);
        due("restored", x.restore(), 11);
        due("restored", x.told(0, 0), 6);
        QuasiSums why = new QuasiSums();
        why.image();
        read(why, 0, "M(");
        why.restore();
        dueTroubles("restore leaves why", why, 0, 1, 2);
    }

    private static void counts() {
        QuasiSums x = new QuasiSums();
        x.put(0, 0, 1);
        x.put(0, 0, 2);
        x.feed('a');
        x.feed('b');
        x.feed('c');
        x.store(0, 0, 0, 0);
        x.order(5);
        x.row(0, 0);
        x.row(2, 3);
        int[] want = {2, 3, 0, 1, 5, 2};
        for (int what = 0; what < 6; what++) {
            due("count " + what, x.count(what), want[what]);
        }
        due("count 6", x.count(6), -1);
        due("count -1", x.count(-1), -1);
    }

    public static void main(String[] args) {
        steps();
        mostSteps();
        nothingMadeOtherwise();
        tape();
        texts();
        faults();
        unlike();
        images();
        counts();
        finish();
    }
}
