/** Promises 6 and 15: which tokens are taken, which refused, and in which order the tests are made. */
final class TokenTest {
    private static final int N = 1;
    private static final int R = 2;
    private static final int[][] TAKES = {
        {}, {}, {}, {N, N}, {N, N}, {N, N}, {N, N}, {N, N}, {N, N}, {N, N, N},
        {R}, {R}, {R}, {R, N}, {N}, {R, R}, {R}, {R}, {R}, {R}, {R},
    };
    private static final int[] GIVES = {N, R, N, N, N, N, N, N, N, N, N, N, N, N, R, R, R, R, R, R, R};
    private static final int[] ODD = {-100, 100, -1, 22, 3, Integer.MIN_VALUE, Integer.MAX_VALUE};

    public static void main(String[] args) {
        operands();
        everyShapeOfStack(false);
        everyShapeOfStack(true);
        whatTokensGive();
        elements();
        ends();
        outsideOfBlock();
        fullStack();
        tooManyBlocks();
        tooManyTokens();
        orderOfTests();
        Due.end("TokenTest");
    }

    private static void operands() {
        VectorLanes x = new VectorLanes();
        for (int kind : new int[] {-1, 22, 23, -22, 100, Integer.MIN_VALUE, Integer.MAX_VALUE}) {
            Due.is("kind " + kind, x.token(kind, 0), -1);
        }
        for (int a : new int[] {-100, 100, 1000, Integer.MIN_VALUE, Integer.MAX_VALUE}) {
            Due.is("CONST " + a, x.token(Kinds.CONST, a), -1);
        }
        for (int a : new int[] {-1, 3, 4, Integer.MIN_VALUE, Integer.MAX_VALUE}) {
            Due.is("INPUT " + a, x.token(Kinds.INPUT, a), -1);
        }
        Due.notWhole("refused", x);
        Due.is("nothing was put", x.clear(), 0);
        for (int a : new int[] {-99, -1, 0, 1, 99}) {
            Due.is("CONST " + a, x.token(Kinds.CONST, a), 1);
            Due.number("CONST " + a, x, a);
            x.clear();
        }
        for (int a = 0; a < 3; a++) {
            Kinds.fill(x, a, 10 + a, 20);
        }
        for (int a = 0; a < 3; a++) {
            Due.is("INPUT " + a, x.token(Kinds.INPUT, a), 1);
            Due.row("INPUT " + a, x, 10 + a, 20);
            x.clear();
        }
    }

    /** Every stack of up to three expressions, outside of a block or within one, against every kind. */
    private static void everyShapeOfStack(boolean inBlock) {
        for (int depth = 0; depth <= 3; depth++) {
            for (int shape = 0; shape < 1 << depth; shape++) {
                for (int kind = 3; kind <= 20; kind++) {
                    VectorLanes x = new VectorLanes();
                    int before = inBlock ? openBlock(x) : 0;
                    int[] stack = new int[depth];
                    for (int d = 0; d < depth; d++) {
                        stack[d] = (shape >> d & 1) == 0 ? N : R;
                        x.token(stack[d] == N ? Kinds.CONST : Kinds.INPUT, 1);
                    }
                    int a = ODD[(kind + shape) % ODD.length];
                    int want = fits(stack, TAKES[kind]) ? before + depth + 1 : -4;
                    Due.is("kind " + kind + " on shape " + shape + " of " + depth, x.token(kind, a), want);
                    int left = want < 0 ? before + depth : want;
                    Due.is("tokens then", x.clear(), left);
                }
            }
        }
    }

    /** Leaves a number and two rows below the block, which nothing in it can take. */
    private static int openBlock(VectorLanes x) {
        Kinds.tokens(x, 0, Kinds.CONST, 5, Kinds.INPUT, 1, Kinds.INPUT, 0, Kinds.EACH, 0);
        return 4;
    }

    private static boolean fits(int[] stack, int[] takes) {
        for (int t = 0; t < takes.length; t++) {
            int place = stack.length - takes.length + t;
            if (place < 0 || stack[place] != takes[t]) {
                return false;
            }
        }
        return true;
    }

    private static void whatTokensGive() {
        for (int kind = 0; kind <= 18; kind++) {
            if (kind == Kinds.ELEMENT) {
                continue;
            }
            VectorLanes x = new VectorLanes();
            for (int taken : TAKES[kind]) {
                x.token(taken == N ? Kinds.CONST : Kinds.INPUT, 1);
            }
            Due.is("kind " + kind, x.token(kind, 0), TAKES[kind].length + 1);
            Due.is("sort of what kind " + kind + " gives", x.sort(), GIVES[kind]);
        }
    }

    private static void elements() {
        VectorLanes x = new VectorLanes();
        for (int a = -2; a < 4; a++) {
            Due.is("no block: ELEMENT " + a, x.token(Kinds.ELEMENT, a), -3);
        }
        Kinds.tokens(x, 0, Kinds.INPUT, 0, Kinds.EACH, 0);
        for (int a : new int[] {-1, 1, 2, -100, 100, Integer.MIN_VALUE, Integer.MAX_VALUE}) {
            Due.is("one block: ELEMENT " + a, x.token(Kinds.ELEMENT, a), -3);
        }
        Kinds.tokens(x, 2, Kinds.ELEMENT, 0, Kinds.UPTO, 0, Kinds.KEEP, 0);
        for (int a : new int[] {-1, 2, 3, -100, 100, Integer.MIN_VALUE, Integer.MAX_VALUE}) {
            Due.is("two blocks: ELEMENT " + a, x.token(Kinds.ELEMENT, a), -3);
        }
        Kinds.tokens(x, 5, Kinds.ELEMENT, 0, Kinds.ELEMENT, 1, Kinds.LESS, 0, Kinds.END, 0);
        Due.is("inner block ended: ELEMENT 1", x.token(Kinds.ELEMENT, 1), -3);
        Kinds.tokens(x, 9, Kinds.SUM, 0, Kinds.ELEMENT, 0, Kinds.ADD, 0, Kinds.END, 0);
        Due.is("all ended: ELEMENT 0", x.token(Kinds.ELEMENT, 0), -3);
    }

    private static void ends() {
        for (int kind = Kinds.EACH; kind <= Kinds.KEEP; kind++) {
            VectorLanes x = new VectorLanes();
            Due.is("no block: END", x.token(Kinds.END, 0), -4);
            Kinds.tokens(x, 0, Kinds.CONST, 1);
            Due.is("no block, a number: END", x.token(Kinds.END, 0), -4);
            Kinds.tokens(x, 1, Kinds.INPUT, 0, kind, 0);
            Due.is("nothing in the block: END", x.token(Kinds.END, 0), -4);
            Kinds.tokens(x, 3, Kinds.INPUT, 0);
            Due.is("a row in the block: END", x.token(Kinds.END, 0), -4);
            Kinds.tokens(x, 4, Kinds.CONST, 7);
            Due.is("a row and a number in the block: END", x.token(Kinds.END, 0), -4);
            Kinds.tokens(x, 5, Kinds.AT, 0, Kinds.CONST, 7);
            Due.is("two numbers in the block: END", x.token(Kinds.END, 0), -4);
            Kinds.tokens(x, 7, Kinds.ADD, 0, Kinds.END, -5, Kinds.SUM, 0, Kinds.ADD, 0);
            Due.number("END took the number and gave a row", x, 1);
        }
    }

    private static void outsideOfBlock() {
        VectorLanes x = new VectorLanes();
        Kinds.tokens(x, 0, Kinds.CONST, 1, Kinds.CONST, 2, Kinds.INPUT, 0, Kinds.INPUT, 0, Kinds.EACH, 0);
        Due.is("row below the block: LENGTH", x.token(Kinds.LENGTH, 0), -4);
        Due.is("row below the block: EACH", x.token(Kinds.EACH, 0), -4);
        Kinds.tokens(x, 5, Kinds.CONST, 0);
        Due.is("row below the block: AT", x.token(Kinds.AT, 0), -4);
        Kinds.tokens(x, 6, Kinds.UPTO, 0);
        Due.is("row below the block: JOIN", x.token(Kinds.JOIN, 0), -4);
        Kinds.tokens(x, 7, Kinds.KEEP, 0, Kinds.CONST, 0);
        Due.is("nothing else in the inner block: ADD", x.token(Kinds.ADD, 0), -4);
        Kinds.tokens(x, 9, Kinds.END, 0, Kinds.SUM, 0, Kinds.END, 0);
        Kinds.tokens(x, 12, Kinds.JOIN, 0, Kinds.SUM, 0, Kinds.PICK, 0);
        Due.number("after the block all can be taken", x, 2);
    }

    private static void fullStack() {
        for (int kind = 0; kind < 2; kind++) {
            VectorLanes x = new VectorLanes();
            for (int d = 0; d < 6; d++) {
                Due.is("expression " + d, x.token(kind, 1), d + 1);
            }
            Due.is("CONST on six", x.token(Kinds.CONST, 1), -5);
            Due.is("INPUT on six", x.token(Kinds.INPUT, 1), -5);
            Due.is("ELEMENT on six, no block", x.token(Kinds.ELEMENT, 0), -3);
            Due.is("CONST 100 on six", x.token(Kinds.CONST, 100), -1);
            Due.is("six stand", x.clear(), 6);
        }
        sixWithBlocks();
        takersOnSix();
    }

    private static void sixWithBlocks() {
        VectorLanes x = new VectorLanes();
        Kinds.tokens(x, 0, Kinds.CONST, 1, Kinds.CONST, 2, Kinds.INPUT, 0, Kinds.EACH, 0, Kinds.ELEMENT, 0,
            Kinds.INPUT, 1, Kinds.KEEP, 0, Kinds.ELEMENT, 1, Kinds.ELEMENT, 0, Kinds.CONST, 3);
        Due.is("ELEMENT 0 on six", x.token(Kinds.ELEMENT, 0), -5);
        Due.is("ELEMENT 1 on six", x.token(Kinds.ELEMENT, 1), -5);
        Due.is("ELEMENT 2 on six", x.token(Kinds.ELEMENT, 2), -3);
        Due.is("CONST on six", x.token(Kinds.CONST, 1), -5);
        Due.is("INPUT on six", x.token(Kinds.INPUT, 1), -5);
        Kinds.tokens(x, 10, Kinds.PICK, 0, Kinds.END, 0, Kinds.CONST, 1, Kinds.CONST, 1);
        Due.is("CONST on six", x.token(Kinds.CONST, 1), -5);
    }

    /** Tokens that take something and put no more than that are taken on a stack of six. */
    private static void takersOnSix() {
        for (int kind = 3; kind <= 20; kind++) {
            VectorLanes x = new VectorLanes();
            int below = 6 - TAKES[kind].length;
            for (int d = 0; d < below; d++) {
                x.token(Kinds.CONST, 9);
            }
            for (int taken : TAKES[kind]) {
                x.token(taken == N ? Kinds.CONST : Kinds.INPUT, 1);
            }
            Due.is("kind " + kind + " on six", x.token(kind, 0), 7);
        }
        VectorLanes x = new VectorLanes();
        for (int d = 0; d < 5; d++) {
            x.token(Kinds.CONST, 9);
        }
        Kinds.tokens(x, 5, Kinds.INPUT, 0, Kinds.EACH, 0, Kinds.ELEMENT, 0, Kinds.END, 0, Kinds.SUM, 0);
    }

    private static void tooManyBlocks() {
        for (int kind = Kinds.EACH; kind <= Kinds.KEEP; kind++) {
            VectorLanes x = new VectorLanes();
            Kinds.tokens(x, 0, Kinds.INPUT, 0, kind, 0, Kinds.INPUT, 0, kind, 0);
            Due.is("EACH without a row", x.token(Kinds.EACH, 0), -4);
            Due.is("KEEP without a row", x.token(Kinds.KEEP, 0), -4);
            Kinds.tokens(x, 4, Kinds.INPUT, 0);
            Due.is("third block EACH", x.token(Kinds.EACH, 0), -5);
            Due.is("third block KEEP", x.token(Kinds.KEEP, 0), -5);
            Kinds.tokens(x, 5, Kinds.SUM, 0, Kinds.END, 0, kind, 0, Kinds.ELEMENT, 1, Kinds.END, 0);
            Kinds.tokens(x, 10, Kinds.MOST, 0, Kinds.END, 0, kind, 0, Kinds.ELEMENT, 0, Kinds.END, 0);
            Due.row("blocks one after the other", x);
        }
    }

    private static void tooManyTokens() {
        VectorLanes x = new VectorLanes();
        Kinds.fill(x, 0, 1, 2, 3);
        Kinds.tokens(x, 0, Kinds.INPUT, 0);
        for (int t = 1; t < 40; t++) {
            Due.is("token " + t, x.token(Kinds.TURN, 0), t + 1);
        }
        Due.row("turned 39 times", x, 3, 2, 1);
        Due.is("41st token", x.token(Kinds.TURN, 0), -2);
        Due.is("41st token, nothing to take", x.token(Kinds.ADD, 0), -2);
        Due.is("41st token, END", x.token(Kinds.END, 0), -2);
        Due.is("41st token, ELEMENT of no block", x.token(Kinds.ELEMENT, 0), -2);
        Due.is("41st token, CONST 100", x.token(Kinds.CONST, 100), -1);
        Due.is("41st token, INPUT 3", x.token(Kinds.INPUT, 3), -1);
        Due.is("41st token, kind 22", x.token(22, 0), -1);
        Due.row("turned 39 times", x, 3, 2, 1);
        Due.is("drop()", x.drop(), 39);
        Due.is("40th token", x.token(Kinds.SUM, 0), 40);
        Due.number("40 tokens", x, 6);
    }

    private static void orderOfTests() {
        VectorLanes x = new VectorLanes();
        for (int t = 0; t < 6; t++) {
            x.token(Kinds.CONST, t);
        }
        for (int t = 6; t < 40; t += 2) {
            x.token(Kinds.UPTO, 0);
            x.token(Kinds.LENGTH, 0);
        }
        Due.is("40 tokens and six expressions: CONST", x.token(Kinds.CONST, 1), -2);
        Due.is("40 tokens and six expressions: ELEMENT", x.token(Kinds.ELEMENT, 5), -2);
        Due.is("40 tokens and six expressions: CONST -100", x.token(Kinds.CONST, -100), -1);
        Due.is("40 tokens", x.clear(), 40);
    }
}
