/** The lines of EACH, KEEP and END, and the sentences about blocks under "Terms". */
final class EdgesOfBlocksTest {
    private static final int MIN = Integer.MIN_VALUE;
    private static final int MAX = Integer.MAX_VALUE;
    private static final int[] NONE = {};
    private static final int[] EIGHT = {4, -7, 0, 4, 9, -7, 1, 2};

    public static void main(String[] args) {
        Due.each(
            EdgesOfBlocksTest::elements, EdgesOfBlocksTest::eachElement, EdgesOfBlocksTest::eachOfNone,
            EdgesOfBlocksTest::keptElements, EdgesOfBlocksTest::keptOfNone, EdgesOfBlocksTest::endNeedsOneNumber,
            EdgesOfBlocksTest::innermostIsEnded, EdgesOfBlocksTest::twoBlocks, EdgesOfBlocksTest::numbersOfBlocks,
            EdgesOfBlocksTest::belowTheBlock, EdgesOfBlocksTest::belowTheInnerBlock);
        Due.end("EdgesOfBlocksTest");
    }

    private static void elements() {
        Due.sentence("ELEMENT a: the number that is the element of the block numbered a");
        Due.row("block 0", Program.of("INPUT 0, EACH, ELEMENT 0, END", EIGHT), EIGHT);
        Due.row("the widest", Program.of("INPUT 0, EACH, ELEMENT 0, END", Program.row(MIN, MAX)), MIN, MAX);
        VectorLanes x = Program.of("INPUT 0, EACH, INPUT 1, EACH, ELEMENT 0, CONST 10, MUL, ELEMENT 1, ADD, END, SCAN, "
            + "CONST 1, AT, END", Program.row(1, 2), Program.row(3, 4));
        Due.row("blocks 0 and 1", x, 27, 47);
        Due.is("no block is open", Program.token(Program.of(""), "ELEMENT 0"), -3);
        Due.is("block 0 alone is open", Program.token(Program.of("INPUT 0, EACH"), "ELEMENT 1"), -3);
    }

    private static void eachElement() {
        Due.sentence("EACH r: worked out once for each element of r .. "
            + "Its END gives the row of the numbers that came out");
        Due.row("one element", Program.of("INPUT 0, EACH, ELEMENT 0, CONST 1, ADD, END", Program.row(6)), 7);
        VectorLanes x = Program.of("INPUT 0, EACH, ELEMENT 0, ELEMENT 0, MUL, END", EIGHT);
        Due.row("eight elements", x, 16, 49, 0, 16, 81, 49, 1, 4);
        Due.row("the same number each time", Program.of("INPUT 0, EACH, CONST 5, END", EIGHT), 5, 5, 5, 5, 5, 5, 5, 5);
        Due.row("0 each time", Program.of("INPUT 0, EACH, CONST 0, END", Program.row(1, 2, 3)), 0, 0, 0);
        Due.row("wrapping", Program.of("INPUT 0, EACH, ELEMENT 0, CONST 1, ADD, END", Program.row(MAX, -1)), MIN, 0);
    }

    private static void eachOfNone() {
        Due.sentence("EACH r: once for each element of r (of an empty row)");
        Due.row("one block", Program.of("INPUT 0, EACH, ELEMENT 0, END", NONE));
        VectorLanes x = Program.of("INPUT 0, EACH, INPUT 1, EACH, ELEMENT 1, END, SUM, END, INPUT 1, JOIN",
            NONE, EIGHT);
        Due.row("a block within it", x, EIGHT);
        VectorLanes y = Program.of("INPUT 0, EACH, ELEMENT 0, UPTO, EACH, CONST 3, END, SUM, END",
            Program.row(0, 2, -1, 9, 0));
        Due.row("inner rows of which some are empty", y, 0, 6, 0, 24, 0);
    }

    private static void keptElements() {
        Due.sentence("KEEP r: its END gives the row of those elements of r "
            + "for which the number that came out is not 0");
        Due.row("all", Program.of("INPUT 0, KEEP, CONST 1, END", EIGHT), EIGHT);
        Due.row("all, by a number below 0", Program.of("INPUT 0, KEEP, CONST -1, END", EIGHT), EIGHT);
        Due.row("none", Program.of("INPUT 0, KEEP, CONST 0, END", EIGHT));
        VectorLanes x = Program.of("INPUT 0, KEEP, ELEMENT 0, END", Program.row(MIN, 0, -1, 256, 0, 65536, MAX, 0));
        Due.row("those that are not 0", x, MIN, -1, 256, 65536, MAX);
        Due.row("the first", Program.of("INPUT 0, KEEP, ELEMENT 0, CONST 4, EQUAL, END", Program.row(4, 5, 6)), 4);
        Due.row("the last", Program.of("INPUT 0, KEEP, ELEMENT 0, CONST 6, EQUAL, END", Program.row(4, 5, 6)), 6);
        Due.row("a 0", Program.of("INPUT 0, KEEP, ELEMENT 0, CONST 0, EQUAL, END", EIGHT), 0);
    }

    private static void keptOfNone() {
        Due.sentence("KEEP r: begins a block in the same way (of an empty row)");
        Due.row("one block", Program.of("INPUT 0, KEEP, CONST 1, END", NONE));
        VectorLanes x = Program.of("INPUT 0, KEEP, INPUT 1, KEEP, ELEMENT 1, END, SUM, END, INPUT 1, JOIN",
            NONE, EIGHT);
        Due.row("a block within it", x, EIGHT);
        VectorLanes y = Program.of("INPUT 0, KEEP, ELEMENT 0, UPTO, KEEP, CONST 1, END, LENGTH, END",
            Program.row(0, 2, -1, 9, 0));
        Due.row("inner rows of which some are empty", y, 2, 9);
    }

    private static void endNeedsOneNumber() {
        Due.sentence("END: on the stack, just one number expression must have been put since the block began");
        for (String begins : new String[] {"INPUT 0, EACH", "INPUT 0, KEEP", "CONST 9, INPUT 0, EACH",
            "INPUT 0, EACH, INPUT 0, KEEP", "INPUT 0, KEEP, CONST 9, INPUT 0, EACH"}) {
            end(begins, -4);
            end(begins + ", INPUT 0", -4);
            end(begins + ", CONST 1, CONST 1", -4);
            end(begins + ", INPUT 0, CONST 1", -4);
            end(begins + ", CONST 1, INPUT 0", -4);
            int count = Program.words(begins).size();
            end(begins + ", CONST 1", count + 2);
            end(begins + ", CONST 1, CONST 1, ADD", count + 4);
        }
        end("", -4);
        end("CONST 1", -4);
        end("INPUT 0, EACH, CONST 1, END", -4);
    }

    private static void end(String program, int want) {
        Due.is("END after " + program, Program.token(Program.of(program), "END"), want);
    }

    private static void innermostIsEnded() {
        Due.sentence("END: ends the innermost block");
        VectorLanes x = Program.of("INPUT 0, EACH, INPUT 1, KEEP, ELEMENT 1, ELEMENT 0, LESS, END",
            Program.row(1, 5), Program.row(0, 3, 4));
        Due.is("block 1 is ended", Program.token(x, "ELEMENT 1"), -3);
        Program.put(x, "LENGTH, ELEMENT 0, ADD, END");
        Due.row("KEEP within, EACH without", x, 2, 8);
        Due.is("block 0 is ended", Program.token(x, "ELEMENT 0"), -3);
        VectorLanes y = Program.of("INPUT 0, KEEP, INPUT 1, EACH, ELEMENT 1, ELEMENT 0, SUB, END, SUM, END",
            Program.row(1, 2), Program.row(1, 1));
        Due.row("EACH within, KEEP without", y, 2);
    }

    private static void twoBlocks() {
        Due.sentence("at most two are open at a place");
        for (String one : new String[] {"EACH", "KEEP"}) {
            for (String other : new String[] {"EACH", "KEEP"}) {
                VectorLanes x = Program.of("INPUT 0");
                Due.is("the first", Program.token(x, one), 2);
                Program.put(x, "INPUT 0");
                Due.is("the second", Program.token(x, other), 4);
                Program.put(x, "INPUT 0");
                Due.is("a third", Program.token(x, one), -5);
                Due.is("a third", Program.token(x, other), -5);
                Program.put(x, "SUM, END");
                Due.is("another second", Program.token(x, other), 8);
                Program.put(x, "ELEMENT 1, END, SUM, END");
                Due.is("another first", Program.token(x, one), 13);
                Program.put(x, "INPUT 0");
                Due.is("a second in it", Program.token(x, one), 15);
                Program.put(x, "INPUT 0");
                Due.is("a third in it", Program.token(x, other), -5);
            }
        }
    }

    private static void numbersOfBlocks() {
        Due.sentence("numbered 0 (the outer one) and 1");
        int[] outer = {10, 20, 30};
        int[] inner = {1, 2};
        VectorLanes x = Program.of("INPUT 0, EACH, INPUT 1, EACH, ELEMENT 0, END, SUM, END", outer, inner);
        Due.row("0 is the outer one", x, 20, 40, 60);
        VectorLanes y = Program.of("INPUT 0, EACH, INPUT 1, EACH, ELEMENT 1, END, SUM, END", outer, inner);
        Due.row("1 is the inner one", y, 3, 3, 3);
        VectorLanes z = Program.of("INPUT 0, EACH, INPUT 1, EACH, ELEMENT 1, END, EACH, ELEMENT 1, ELEMENT 0, ADD, END, "
            + "SUM, ELEMENT 0, ADD, END, EACH, ELEMENT 0, CONST 1, ADD, END", outer, inner);
        Due.row("the numbers are given anew", z, 34, 64, 94);
        for (int a : new int[] {MIN, -1, 2, MAX}) {
            Due.is("ELEMENT " + a, Program.of("INPUT 0, EACH, INPUT 0, EACH").token(Kinds.ELEMENT, a), -3);
        }
    }

    /** Each kind that takes something, with all or a part of it below the block, and then the same within the block. */
    private static void notTaken(String below, String begins, String within, String word) {
        VectorLanes x = Program.of(below + ", " + begins + ", " + within);
        Due.is(below + " below, " + within + " in the block: " + word, Program.token(x, word), -4);
    }

    private static void belowBlocks(String begins) {
        for (int kind = Kinds.ADD; kind <= Kinds.KEEP; kind++) {
            String needs = Program.needs(kind);
            String word = Program.name(kind);
            int count = Program.words(needs).size();
            for (int below = 1; below <= count; below++) {
                String under = String.join(", ", Program.words(needs).subList(0, below));
                String within = String.join(", ", Program.words(needs).subList(below, count));
                notTaken(under, begins, within, word);
            }
            VectorLanes x = Program.of(begins + ", " + needs);
            int answer = Program.token(x, word);
            boolean third = kind >= Kinds.EACH && begins.contains("KEEP");
            int due = third ? -5 : Program.words(begins).size() + count + 1;
            Due.is("in the block " + needs + ": " + word, answer, due);
        }
        notTaken("CONST 1", begins, "", "END");
    }

    private static void belowTheBlock() {
        Due.sentence("What stood on the stack before a block began can't be taken by tokens in it.");
        belowBlocks("INPUT 0, EACH");
        VectorLanes x = Program.of("CONST 7, INPUT 0, INPUT 1, EACH, CONST 1, END, JOIN, SUM, ADD",
            Program.row(3), Program.row(4, 4));
        Due.number("taken after the block", x, 12);
    }

    private static void belowTheInnerBlock() {
        Due.sentence("What stood on the stack before a block began can't be taken by tokens in it. (of two blocks)");
        belowBlocks("INPUT 0, EACH, INPUT 0, KEEP");
        for (int kind = Kinds.ADD; kind <= Kinds.KEEP; kind++) {
            String needs = Program.needs(kind);
            notTaken("INPUT 0, EACH, " + needs, "INPUT 0, KEEP", "", Program.name(kind));
        }
        VectorLanes x = Program.of("INPUT 0, EACH, ELEMENT 0, "
            + "INPUT 1, KEEP, ELEMENT 1, ELEMENT 0, LESS, END, SUM, SUB, END", Program.row(1, 5), Program.row(0, 3, 4));
        Due.row("taken after the inner block", x, 1, -2);
    }
}
