import java.util.ArrayList;
import java.util.List;

/**
 * Every stack that tokens can leave, by the sorts on it and the places where blocks began, and on each of them every
 * kind of token: its answer, and what comes of the program once it has been brought to an end. No index into a stack
 * is thus left untried.
 */
final class EveryStackTest {
    private static final int HEIGHT = 6;
    private static final int NO_BLOCK = -1;
    private static final int[] ENDINGS = {
        Kinds.END, Kinds.SUB, Kinds.JOIN, Kinds.AT, Kinds.SUM, Kinds.UPTO, Kinds.CONST,
    };
    private static final int[][] INPUTS = {{5, -2, 7}, {1, 2, 3, 4, 5, 6, 7, 8}, {3, 0, -4, 3, 9, -1, 0, 6}};

    private static int stacks = 0;
    private static int wholes = 0;

    private final List<int[]> tokens = new ArrayList<>();

    public static void main(String[] args) {
        Due.each(EveryStackTest::everyTokenOnEveryStack);
        Due.end("EveryStackTest");
    }

    private static void everyTokenOnEveryStack() {
        Due.sentence("LANGUAGE.md, rule 7: No call may ever throw .. in any state: "
            + "an index is looked at before it is used");
        for (int height = 0; height <= HEIGHT; height++) {
            for (int rows = 0; rows < 1 << height; rows++) {
                onEachChoiceOfBlocks(height, rows);
            }
        }
        Due.is("stacks", stacks, howManyStacks());
        Due.is("more than " + 5 * stacks + " tokens were taken (" + wholes + ")", wholes > 5 * stacks ? 1 : 0, 1);
    }

    /** A block takes a row that stood on the stack, so it can't begin above six expressions. */
    private static void onEachChoiceOfBlocks(int height, int rows) {
        int last = Math.min(height, HEIGHT - 1);
        onStack(height, rows, NO_BLOCK, NO_BLOCK);
        for (int outer = 0; outer <= last; outer++) {
            onStack(height, rows, outer, NO_BLOCK);
            for (int inner = outer; inner <= last; inner++) {
                onStack(height, rows, outer, inner);
            }
        }
    }

    /** For each height: the choices of sorts, times the choices of no, one or two places among those open to blocks. */
    private static int howManyStacks() {
        int count = 0;
        for (int height = 0; height <= HEIGHT; height++) {
            int places = Math.min(height, HEIGHT - 1) + 1;
            count += (1 << height) * (1 + places + places * (places + 1) / 2);
        }
        return count;
    }

    private static void onStack(int height, int rows, int outer, int inner) {
        stacks++;
        EveryStackTest stack = new EveryStackTest();
        stack.build(height, rows, outer, inner);
        for (int kind = 0; kind <= Kinds.END; kind++) {
            for (int a = 0; a < (kind == Kinds.ELEMENT ? 3 : 1); a++) {
                stack.tryToken(kind, a);
            }
        }
    }

    private void build(int height, int rows, int outer, int inner) {
        int open = 0;
        for (int place = 0; place <= height; place++) {
            if (place == outer) {
                open = beginBlock(open, (rows + place) % 2);
            }
            if (place == inner) {
                open = beginBlock(open, (rows / 2 + place) % 2);
            }
            if (place < height) {
                addExpression(place, (rows >> place & 1) != 0, open);
            }
        }
    }

    private void addExpression(int place, boolean isRow, int open) {
        if (isRow) {
            add(Kinds.INPUT, place % 3);
        } else if (open > 0 && place % 3 != 0) {
            add(Kinds.ELEMENT, place % open);
        } else {
            add(Kinds.CONST, 7 * place - 10);
        }
    }

    private int beginBlock(int open, int kind) {
        add(Kinds.INPUT, 1 + open);
        add(Kinds.EACH + kind, 0);
        return open + 1;
    }

    private void add(int kind, int a) {
        tokens.add(new int[] {kind, a});
    }

    private void tryToken(int kind, int a) {
        VectorLanes x = new VectorLanes();
        Model y = new Model();
        for (int i = 0; i < 3; i++) {
            for (int v : INPUTS[i]) {
                x.put(i, v);
                y.put(i, v);
            }
        }
        StringBuilder words = new StringBuilder();
        for (int[] token : tokens) {
            words.append(Program.name(token[0])).append(' ').append(token[1]).append(", ");
            Due.is(words + "is taken", x.token(token[0], token[1]), y.token(token[0], token[1]));
        }
        int want = y.token(kind, a);
        Due.is(words + Program.name(kind) + " " + a, x.token(kind, a), want);
        if (want > 0) {
            wholes++;
        }
        bringToEnd(x, y);
        String whole = words + Program.name(kind) + " " + a + " brought to an end";
        Due.is(whole + ": sort()", x.sort(), y.sort());
        Due.is(whole + ": it is whole", y.sort() > 0 ? 1 : 0, 1);
        Due.is(whole + ": mixture()", x.mixture(), y.mixture());
    }

    private static void bringToEnd(VectorLanes x, Model y) {
        for (int step = 0; step < 40 && y.sort() == 0; step++) {
            int want = -1;
            for (int k = 0; k < ENDINGS.length && want < 0; k++) {
                want = y.token(ENDINGS[k], 1);
                int got = x.token(ENDINGS[k], 1);
                if (got != want) {
                    Due.is(Program.name(ENDINGS[k]) + " while brought to an end", got, want);
                }
            }
        }
    }
}
