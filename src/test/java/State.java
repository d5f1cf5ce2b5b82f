/** A state that an object can be brought to, and the states in which a call is looked at. */
final class State {
    private static final int[][] NONE = {{}, {}, {}};
    private static final int[][] SOME = {
        {}, {4, -3, 4}, {Integer.MAX_VALUE, 2, 0, -1, 6, 2, 9, Integer.MIN_VALUE},
    };
    private static final int[][] FULL = {
        {1, 2, 3, 4, 5, 6, 7, 8}, {-1, -2, -3, -4, -5, -6, -7, -8}, {9, 9, 9, 9, 9, 9, 9, 9},
    };
    private static final String TWO_BLOCKS = "INPUT 2, EACH, INPUT 1, KEEP";

    static final State[] ALL = {
        new State("new", NONE, ""),
        new State("no tokens", SOME, ""),
        new State("no tokens, full inputs", FULL, ""),
        new State("a number", SOME, "INPUT 2, SUM"),
        new State("a row", SOME, "INPUT 2, SORT"),
        new State("an empty row", SOME, "INPUT 0"),
        new State("a row from blocks, full inputs", FULL,
            "INPUT 0, EACH, INPUT 1, KEEP, ELEMENT 1, ELEMENT 0, ADD, END, SUM, END"),
        new State("two expressions", SOME, "CONST 4, INPUT 2"),
        new State("six expressions", SOME, "CONST 1, CONST 2, CONST 3, INPUT 2, INPUT 1, CONST 0"),
        new State("six rows", SOME, "INPUT 2, INPUT 1, INPUT 0, INPUT 2, INPUT 1, INPUT 2"),
        new State("a block with nothing in it", SOME, "INPUT 2, EACH"),
        new State("a block with a number in it", SOME, "CONST 7, INPUT 2, KEEP, ELEMENT 0"),
        new State("a block with a row in it", SOME, "CONST 5, INPUT 1, INPUT 2, EACH, INPUT 1"),
        new State("a block with two numbers in it", SOME, "INPUT 1, EACH, ELEMENT 0, CONST 2"),
        new State("two blocks with nothing in the inner one", SOME, TWO_BLOCKS),
        new State("two blocks with a number", SOME, TWO_BLOCKS + ", ELEMENT 1"),
        new State("two blocks with a row", SOME, "CONST 8, " + TWO_BLOCKS + ", INPUT 2"),
        new State("two blocks and six expressions", SOME,
            "CONST 8, INPUT 1, INPUT 2, EACH, ELEMENT 0, INPUT 1, KEEP, ELEMENT 1, ELEMENT 0, CONST 3"),
        new State("39 tokens", SOME, "INPUT 2, " + Program.times(37, "TURN") + ", SORT"),
        new State("40 tokens, a row", SOME, "INPUT 2, " + Program.times(38, "TURN") + ", SCAN"),
        new State("40 tokens, six expressions", SOME,
            "CONST 1, CONST 2, INPUT 1, INPUT 2, INPUT 2, CONST 5, " + Program.times(17, "UPTO, LENGTH")),
        new State("40 tokens, two blocks", SOME,
            TWO_BLOCKS + ", ELEMENT 1, " + Program.times(17, "UPTO, MOST") + ", UPTO"),
        new State("40 tokens, a block to be ended", SOME,
            "INPUT 2, EACH, INPUT 1, " + Program.times(36, "TURN") + ", SUM"),
    };

    final String name;
    private final int[][] inputs;
    private final String program;

    private State(String name, int[][] inputs, String program) {
        this.name = name;
        this.inputs = inputs;
        this.program = program;
    }

    void on(VectorLanes x) {
        for (int i = 0; i < 3; i++) {
            Kinds.fill(x, i, inputs[i]);
        }
        Program.put(x, program);
    }

    void on(Model y) {
        for (int i = 0; i < 3; i++) {
            for (int v : inputs[i]) {
                y.put(i, v);
            }
        }
        for (String word : Program.words(program)) {
            y.token(Program.kindOf(word), Program.operandOf(word));
        }
    }
}
