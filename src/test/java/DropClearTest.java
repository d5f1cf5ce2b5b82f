/** Promises 7 and 8: drop and clear. */
final class DropClearTest {
    private static final int[] PROGRAM = {
        Kinds.CONST, 3, Kinds.INPUT, 0, Kinds.EACH, 0, Kinds.INPUT, 1, Kinds.KEEP, 0, Kinds.ELEMENT, 1,
        Kinds.ELEMENT, 0, Kinds.LESS, 0, Kinds.END, 0, Kinds.LENGTH, 0, Kinds.CONST, 2, Kinds.CONST, 5,
        Kinds.PICK, 0, Kinds.END, 0, Kinds.SCAN, 0, Kinds.SUM, 0, Kinds.SUB, 0, Kinds.UPTO, 0,
    };

    public static void main(String[] args) {
        droppingBack();
        droppingEachToken();
        droppedStackIsFree();
        nothingToDrop();
        clearing();
        Due.end("DropClearTest");
    }

    private static VectorLanes withInputs() {
        VectorLanes x = new VectorLanes();
        Kinds.fill(x, 0, 4, 1, 6);
        Kinds.fill(x, 1, 5, 2, 3);
        return x;
    }

    /** What a program answers to each token that could come next; none of these tries stays. */
    private static String answersToAll(VectorLanes x) {
        StringBuilder answers = new StringBuilder();
        answers.append(x.sort()).append(' ').append(x.length()).append(' ').append(x.mixture());
        for (int kind = 0; kind <= 21; kind++) {
            for (int a = 0; a < (kind == Kinds.ELEMENT ? 3 : 1); a++) {
                int answer = x.token(kind, a);
                answers.append(' ').append(answer);
                if (answer > 0) {
                    x.drop();
                }
            }
        }
        return answers.toString();
    }

    private static void droppingBack() {
        VectorLanes x = withInputs();
        int count = PROGRAM.length / 2;
        Kinds.tokens(x, 0, PROGRAM);
        for (int left = count - 1; left >= 0; left--) {
            Due.is("drop()", x.drop(), left);
            VectorLanes y = withInputs();
            for (int t = 0; t < left; t++) {
                y.token(PROGRAM[2 * t], PROGRAM[2 * t + 1]);
            }
            Due.is("sort() at " + left, x.sort(), y.sort());
            Due.is("mixture() at " + left, x.mixture(), y.mixture());
        }
        Due.inputRow("untouched", x, 0, 4, 1, 6);
        Due.inputRow("untouched", x, 1, 5, 2, 3);
    }

    private static void droppingEachToken() {
        for (int t = 0; t < PROGRAM.length / 2; t++) {
            VectorLanes x = withInputs();
            VectorLanes y = withInputs();
            for (int k = 0; k <= t; k++) {
                x.token(PROGRAM[2 * k], PROGRAM[2 * k + 1]);
                if (k < t) {
                    y.token(PROGRAM[2 * k], PROGRAM[2 * k + 1]);
                }
            }
            Due.is("drop()", x.drop(), t);
            String after = answersToAll(x);
            String wanted = answersToAll(y);
            Due.is("after " + t + " tokens " + after + " against " + wanted, after.equals(wanted) ? 1 : 0, 1);
        }
    }

    private static void droppedStackIsFree() {
        VectorLanes x = withInputs();
        Kinds.tokens(x, 0, Kinds.INPUT, 0, Kinds.EACH, 0, Kinds.ELEMENT, 0, Kinds.END, 0);
        Due.is("drop END", x.drop(), 3);
        Due.notWhole("block is open again", x);
        Kinds.tokens(x, 3, Kinds.CONST, 2, Kinds.MUL, 0, Kinds.END, 0);
        Due.row("block ended anew", x, 8, 2, 12);
        Due.is("drop END", x.drop(), 5);
        Due.is("drop MUL", x.drop(), 4);
        Due.is("END on two numbers", x.token(Kinds.END, 0), -4);
        Due.is("drop CONST", x.drop(), 3);
        Due.is("drop ELEMENT", x.drop(), 2);
        Due.is("drop EACH", x.drop(), 1);
        Due.row("row stands again", x, 4, 1, 6);
        Due.is("ELEMENT of a dropped block", x.token(Kinds.ELEMENT, 0), -3);
        Kinds.tokens(x, 1, Kinds.SUM, 0);
        Due.number("row is taken anew", x, 11);
    }

    private static void nothingToDrop() {
        VectorLanes x = withInputs();
        Due.is("drop()", x.drop(), -1);
        Kinds.tokens(x, 0, Kinds.CONST, 4);
        Due.is("drop()", x.drop(), 0);
        Due.is("drop()", x.drop(), -1);
        Due.is("drop()", x.drop(), -1);
        Kinds.tokens(x, 0, Kinds.CONST, 4);
        Due.number("after it", x, 4);
    }

    private static void clearing() {
        VectorLanes x = withInputs();
        Due.is("clear() of nothing", x.clear(), 0);
        Kinds.tokens(x, 0, PROGRAM);
        Due.is("clear()", x.clear(), PROGRAM.length / 2);
        Due.notWhole("cleared", x);
        Due.is("clear() again", x.clear(), 0);
        Due.is("drop() after clear", x.drop(), -1);
        Due.is("ADD after clear", x.token(Kinds.ADD, 0), -4);
        Kinds.tokens(x, 0, Kinds.INPUT, 0, Kinds.EACH, 0, Kinds.INPUT, 1, Kinds.KEEP, 0, Kinds.CONST, 1);
        Due.is("clear() with open blocks", x.clear(), 5);
        Due.is("ELEMENT after clear", x.token(Kinds.ELEMENT, 0), -3);
        Due.is("END after clear", x.token(Kinds.END, 0), -4);
        Kinds.tokens(x, 0, PROGRAM);
        Due.inputRow("untouched", x, 0, 4, 1, 6);
        Due.inputRow("untouched", x, 1, 5, 2, 3);
        x.clear();
        for (int t = 0; t < 6; t++) {
            Due.is("stack is free", x.token(Kinds.CONST, 1), t + 1);
        }
        Due.is("clear() of six", x.clear(), 6);
    }
}
