/** Promises 9 to 14: size, input, sort, length, result, mixture, which change nothing. */
final class QuestionsTest {
    public static void main(String[] args) {
        ofNumbers();
        ofRows();
        ofProgramsNotWhole();
        mixtureWraps();
        followInputs();
        changeNothing();
        Due.end("QuestionsTest");
    }

    private static void ofNumbers() {
        VectorLanes x = new VectorLanes();
        Kinds.tokens(x, 0, Kinds.CONST, 42);
        Due.number("42", x, 42);
        Due.is("result(8)", x.result(8), 0);
        Due.is("result(max)", x.result(Integer.MAX_VALUE), 0);
        Due.is("result(min)", x.result(Integer.MIN_VALUE), 0);
        Kinds.tokens(x, 1, Kinds.UPTO, 0, Kinds.LENGTH, 0);
        Due.number("length of a row of 8", x, 8);
    }

    private static void ofRows() {
        VectorLanes x = new VectorLanes();
        Kinds.tokens(x, 0, Kinds.INPUT, 0);
        Due.row("empty", x);
        Kinds.fill(x, 0, 5);
        Due.row("one", x, 5);
        Kinds.fill(x, 0, 5, -6, 7, 8, 9, 10, 11, 12);
        Due.row("eight", x, 5, -6, 7, 8, 9, 10, 11, 12);
        Due.is("mixture()", x.mixture(), 5 - 12 + 21 + 32 + 45 + 60 + 77 + 96);
        Due.is("result(8)", x.result(8), 0);
        Due.is("result(16)", x.result(16), 0);
        Due.is("result(-8)", x.result(-8), 0);
        Due.is("result(max)", x.result(Integer.MAX_VALUE), 0);
        Due.is("result(min)", x.result(Integer.MIN_VALUE), 0);
    }

    private static void ofProgramsNotWhole() {
        VectorLanes x = new VectorLanes();
        Kinds.fill(x, 0, 3, 4);
        Due.notWhole("no tokens", x);
        Kinds.tokens(x, 0, Kinds.CONST, 6, Kinds.CONST, 7);
        Due.notWhole("two numbers", x);
        x.clear();
        Kinds.tokens(x, 0, Kinds.INPUT, 0, Kinds.EACH, 0);
        Due.notWhole("open block, nothing on the stack", x);
        Kinds.tokens(x, 2, Kinds.ELEMENT, 0);
        Due.notWhole("open block, one number on the stack", x);
        Kinds.tokens(x, 3, Kinds.UPTO, 0);
        Due.notWhole("open block, one row on the stack", x);
        Kinds.tokens(x, 4, Kinds.KEEP, 0, Kinds.CONST, 1);
        Due.notWhole("two open blocks, one number", x);
        Kinds.tokens(x, 6, Kinds.END, 0);
        Due.notWhole("inner block ended", x);
        Kinds.tokens(x, 7, Kinds.LENGTH, 0, Kinds.END, 0);
        Due.row("whole", x, 3, 4);
        Kinds.tokens(x, 9, Kinds.INPUT, 0);
        Due.notWhole("two rows", x);
        Kinds.tokens(x, 10, Kinds.JOIN, 0);
        Due.row("whole again", x, 3, 4, 3, 4);
    }

    private static void mixtureWraps() {
        VectorLanes x = new VectorLanes();
        int most = Integer.MAX_VALUE;
        int least = Integer.MIN_VALUE;
        Kinds.fill(x, 0, most, most, least, least, 7, most, 1, least);
        Kinds.tokens(x, 0, Kinds.INPUT, 0);
        long sum = most + 2L * most + 3L * least + 4L * least + 35L + 6L * most + 7L + 8L * least;
        Due.is("mixture()", x.mixture(), (int) sum);
    }

    private static void followInputs() {
        VectorLanes x = new VectorLanes();
        Kinds.fill(x, 0, 1, 2);
        Kinds.tokens(x, 0, Kinds.INPUT, 0, Kinds.SCAN, 0);
        Due.row("first", x, 1, 3);
        Kinds.fill(x, 0, 1, 2, 10);
        Due.row("after put", x, 1, 3, 13);
        x.set(0, 0, -5);
        Due.row("after set", x, -5, -3, 7);
        x.store(0);
        Due.row("after store", x, -5, -8, -1);
        x.empty(0);
        Due.row("after empty", x);
    }

    private static void changeNothing() {
        VectorLanes x = new VectorLanes();
        Kinds.fill(x, 0, 2, 1);
        Kinds.fill(x, 1, 9, 8, 7);
        Kinds.tokens(x, 0, Kinds.INPUT, 1, Kinds.SORT, 0, Kinds.EACH, 0, Kinds.ELEMENT, 0, Kinds.INPUT, 0,
            Kinds.SORT, 0, Kinds.SUM, 0, Kinds.MUL, 0, Kinds.END, 0);
        for (int round = 0; round < 3; round++) {
            Due.row("round " + round, x, 21, 24, 27);
            Due.inputRow("round " + round, x, 0, 2, 1);
            Due.inputRow("round " + round, x, 1, 9, 8, 7);
            Due.inputRow("round " + round, x, 2);
        }
        Due.is("drop()", x.drop(), 8);
        for (int round = 0; round < 3; round++) {
            Due.notWhole("open", x);
        }
        Kinds.tokens(x, 8, Kinds.END, 0);
        Due.row("ended anew", x, 21, 24, 27);
    }
}
