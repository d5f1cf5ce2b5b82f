/** Promises 6 and 15, sentence by sentence. */
final class EdgesOfTokenTest {
    private static final int MIN = Integer.MIN_VALUE;
    private static final int MAX = Integer.MAX_VALUE;
    private static final int[] ODD = {MIN, -100, -1, 2, 3, 22, 100, MAX};
    private static final int[] THREE = {5, 6, 7};

    public static void main(String[] args) {
        Due.each(
            EdgesOfTokenTest::kinds, EdgesOfTokenTest::operandOfConst, EdgesOfTokenTest::operandOfInput,
            EdgesOfTokenTest::operandOfElement, EdgesOfTokenTest::operandOfOthers, EdgesOfTokenTest::fortyTokens,
            EdgesOfTokenTest::elementOfNoBlock, EdgesOfTokenTest::takenExpressions,
            EdgesOfTokenTest::takenSinceTheBlock, EdgesOfTokenTest::endOfNoBlock, EdgesOfTokenTest::endOfNotJustOne,
            EdgesOfTokenTest::endOfNoNumber, EdgesOfTokenTest::sixExpressions, EdgesOfTokenTest::sixOfAllBlocks,
            EdgesOfTokenTest::twoBlocks, EdgesOfTokenTest::answers, EdgesOfTokenTest::sixForThreeKindsAlone,
            EdgesOfTokenTest::endTakesTheNumber);
        Due.end("EdgesOfTokenTest");
    }

    private static Twins.Calls state(String program) {
        return x -> {
            Kinds.fill(x, 0, THREE);
            Kinds.fill(x, 1, 1, 2, 3, 4, 5, 6, 7, 8);
            Program.put(x, program);
        };
    }

    private static void refused(String program, int kind, int a, int want) {
        Twins.refused("token(" + kind + ", " + a + ") after " + program, state(program), x -> x.token(kind, a), want);
    }

    private static void taken(String program, String word, int want) {
        Due.is(word + " after " + program, Program.token(Program.of(program), word), want);
    }

    private static void refused(String program, String word, int want) {
        refused(program, Program.kindOf(word), Program.operandOf(word), want);
    }

    private static void kinds() {
        Due.sentence("kind is not 0 to 21 .. : -1.");
        for (int kind : new int[] {MIN, -22, -2, -1, 22, 23, 64, 256, MAX}) {
            refused("", kind, 0, -1);
            refused("INPUT 0, EACH, CONST 1", kind, 0, -1);
        }
        for (int kind = 0; kind <= 21; kind++) {
            VectorLanes x = Program.of(Program.needs(kind));
            Due.is(Program.name(kind), x.token(kind, 0), Program.words(Program.needs(kind)).size() + 1);
        }
    }

    private static void operandOfConst() {
        Due.sentence("a is not -99 to 99 for CONST .. : -1.");
        for (int a : new int[] {MIN, MIN + 1, -1000, -101, -100, 100, 101, 1000, MAX}) {
            refused("", Kinds.CONST, a, -1);
        }
        refused("CONST 1, CONST 2", Kinds.CONST, 100, -1);
        for (int a : new int[] {-99, -98, 0, 98, 99}) {
            Due.is("CONST " + a, new VectorLanes().token(Kinds.CONST, a), 1);
        }
    }

    private static void operandOfInput() {
        Due.sentence("not 0 to 2 for INPUT .. : -1.");
        for (int a : new int[] {MIN, -99, -2, -1, 3, 4, 99, MAX}) {
            refused("", Kinds.INPUT, a, -1);
        }
        refused("INPUT 1", Kinds.INPUT, 3, -1);
        for (int a = 0; a < 3; a++) {
            Due.is("INPUT " + a, new VectorLanes().token(Kinds.INPUT, a), 1);
        }
    }

    private static void operandOfElement() {
        Due.sentence("for ELEMENT see below");
        for (int a : new int[] {MIN, -100, -99, -1, 2, 3, 99, 100, MAX}) {
            Due.is("ELEMENT " + a, Program.of("INPUT 0, EACH, INPUT 0, EACH").token(Kinds.ELEMENT, a), -3);
            Due.is("ELEMENT " + a + ", no block", new VectorLanes().token(Kinds.ELEMENT, a), -3);
        }
    }

    private static void operandOfOthers() {
        Due.sentence("for others a is not looked at");
        for (int kind = Kinds.ADD; kind <= Kinds.END; kind++) {
            String needs = Program.needs(kind);
            int count = Program.words(needs).size() + 1;
            VectorLanes plain = Program.of(needs, THREE, THREE);
            plain.token(kind, 0);
            for (int a : ODD) {
                VectorLanes x = Program.of(needs, THREE, THREE);
                Due.is(Program.name(kind) + " " + a, x.token(kind, a), count);
                Due.is("sort()", x.sort(), plain.sort());
                Due.is("length()", x.length(), plain.length());
                Due.is("mixture()", x.mixture(), plain.mixture());
                Due.is(Program.name(kind) + " " + a + " of nothing", new VectorLanes().token(kind, a), -4);
            }
        }
    }

    private static void fortyTokens() {
        Due.sentence("There are 40 tokens: -2.");
        String before = "INPUT 1, " + Program.times(38, "TURN");
        taken(before, "TURN", 40);
        for (int kind = 0; kind <= 21; kind++) {
            refused(before + ", TURN", kind, 0, -2);
        }
        VectorLanes x = Program.of(before + ", TURN");
        Due.is("drop()", x.drop(), 39);
        Due.is("the 40th again", Program.token(x, "SUM"), 40);
        Due.is("drop()", x.drop(), 39);
        Due.is("clear()", x.clear(), 39);
        Due.is("the first again", Program.token(x, "CONST 1"), 1);
    }

    private static void elementOfNoBlock() {
        Due.sentence("ELEMENT: block a is not open: -3.");
        int[][] open = {{}, {0}, {0, 1}, {0}, {}};
        String[] programs = {"", "INPUT 0, EACH", "INPUT 0, EACH, INPUT 1, KEEP",
            "INPUT 0, EACH, INPUT 1, KEEP, CONST 1, END", "INPUT 0, EACH, INPUT 1, KEEP, CONST 1, END, SUM, END"};
        for (int p = 0; p < programs.length; p++) {
            for (int a : new int[] {MIN, -2, -1, 0, 1, 2, 3, MAX}) {
                if (a >= 0 && a < open[p].length) {
                    int count = Program.words(programs[p]).size() + 1;
                    taken(programs[p], "ELEMENT " + a, count);
                } else {
                    refused(programs[p], Kinds.ELEMENT, a, -3);
                }
            }
        }
    }

    private static final String[] STACKS = {
        "", "CONST 1", "INPUT 0", "CONST 1, CONST 2", "CONST 1, INPUT 0", "INPUT 0, CONST 1", "INPUT 0, INPUT 1",
        "CONST 1, CONST 2, CONST 3", "CONST 1, CONST 2, INPUT 0", "CONST 1, INPUT 0, CONST 2",
        "CONST 1, INPUT 0, INPUT 1", "INPUT 0, CONST 1, CONST 2", "INPUT 0, CONST 1, INPUT 0",
        "INPUT 0, INPUT 1, CONST 1", "INPUT 0, INPUT 1, INPUT 0",
    };

    /** The sorts from the bottom of the stack up, n for a number, r for a row. */
    private static String sorts(String program) {
        StringBuilder sorts = new StringBuilder();
        for (String word : Program.words(program)) {
            sorts.append(Program.kindOf(word) == Kinds.INPUT ? 'r' : 'n');
        }
        return sorts.toString();
    }

    private static void onEachStack(String begins) {
        for (String stack : STACKS) {
            for (int kind = Kinds.ADD; kind <= Kinds.KEEP; kind++) {
                String program = begins + ", " + stack;
                if (sorts(stack).endsWith(sorts(Program.needs(kind)))) {
                    int count = Program.words(program).size() + 1;
                    taken(program, Program.name(kind), count);
                } else {
                    refused(program, kind, 0, -4);
                }
            }
        }
    }

    private static void takenExpressions() {
        Due.sentence("The stack .. has not, at its top, the expressions that the token takes: -4");
        onEachStack("");
    }

    private static void takenSinceTheBlock() {
        Due.sentence("The stack (since the innermost open block began) has not, at its top, "
            + "the expressions that the token takes: -4");
        onEachStack("INPUT 0, INPUT 1, EACH");
        onEachStack("CONST 1, CONST 2, INPUT 1, EACH");
        onEachStack("INPUT 0, CONST 2, INPUT 1, KEEP");
        refused("INPUT 0, EACH, CONST 1, CONST 2, INPUT 1, KEEP, CONST 3", "ADD", -4);
        refused("INPUT 0, EACH, INPUT 0, INPUT 1, KEEP, INPUT 0", "JOIN", -4);
        refused("INPUT 0, EACH, INPUT 0, INPUT 1, KEEP", "EACH", -4);
        taken("INPUT 0, EACH, INPUT 0, INPUT 1, KEEP, CONST 3, END", "JOIN", 8);
    }

    private static void endOfNoBlock() {
        Due.sentence("for END: no block is open .. : -4");
        for (String program : new String[] {"", "CONST 1", "INPUT 0", "CONST 1, CONST 2", "INPUT 0, EACH, CONST 1, END",
            "INPUT 0, EACH, CONST 1, END, SUM"}) {
            refused(program, "END", -4);
        }
        taken("INPUT 0, EACH, CONST 1", "END", 4);
    }

    private static void endOfNotJustOne() {
        Due.sentence("for END: .. not just one expression stands there .. : -4");
        for (String begins : new String[] {"INPUT 0, EACH", "CONST 4, INPUT 0, KEEP", "INPUT 0, EACH, INPUT 0, KEEP",
            "INPUT 0, EACH, CONST 4, INPUT 0, KEEP"}) {
            refused(begins, "END", -4);
            refused(begins + ", CONST 1, CONST 2", "END", -4);
            refused(begins + ", INPUT 0, CONST 2", "END", -4);
            refused(begins + ", CONST 1, CONST 2, CONST 3", "END", -4);
            taken(begins + ", CONST 1", "END", Program.words(begins).size() + 2);
        }
    }

    private static void endOfNoNumber() {
        Due.sentence("for END: .. or it is no number: -4");
        for (String begins : new String[] {"INPUT 0, EACH", "CONST 4, INPUT 0, KEEP", "INPUT 0, EACH, INPUT 0, KEEP"}) {
            refused(begins + ", INPUT 0", "END", -4);
            refused(begins + ", CONST 1, UPTO", "END", -4);
            taken(begins + ", INPUT 0, SUM", "END", Program.words(begins).size() + 3);
        }
        refused("INPUT 0, EACH, INPUT 0, KEEP, CONST 1, END", "END", -4);
    }

    private static void sixExpressions() {
        Due.sentence("It takes nothing and the stack .. has 6 expressions: -5");
        for (String word : new String[] {"CONST 1", "INPUT 1"}) {
            String five = Program.times(5, word);
            String six = Program.times(6, word);
            taken(five, "CONST 1", 6);
            taken(five, "INPUT 1", 6);
            refused(six, "CONST 1", -5);
            refused(six, "INPUT 1", -5);
            refused(six, "ELEMENT 0", -3);
        }
        String inBlock = "INPUT 0, EACH, " + Program.times(5, "ELEMENT 0");
        taken(inBlock, "ELEMENT 0", 8);
        refused(inBlock + ", CONST 1", "ELEMENT 0", -5);
        VectorLanes x = Program.of(Program.times(6, "CONST 1") + ", ADD");
        Due.is("once two were added up", Program.token(x, "CONST 1"), 8);
        Due.is("and then", Program.token(x, "CONST 1"), -5);
    }

    private static void sixOfAllBlocks() {
        Due.sentence("the stack (of all open blocks together) has 6 expressions: -5");
        String[] fives = {
            "CONST 1, CONST 2, INPUT 0, EACH, CONST 3, CONST 4, CONST 5",
            "CONST 1, CONST 2, CONST 3, CONST 4, CONST 5, INPUT 0, EACH",
            "CONST 1, CONST 2, INPUT 0, EACH, CONST 3, INPUT 1, KEEP, ELEMENT 0, ELEMENT 1",
            "CONST 1, CONST 2, INPUT 0, EACH, CONST 3, CONST 4, CONST 5, INPUT 1, KEEP",
            "INPUT 0, EACH, INPUT 0, KEEP, CONST 1, CONST 2, CONST 3, CONST 4, CONST 5",
        };
        for (String five : fives) {
            int count = Program.words(five).size() + 1;
            for (String word : new String[] {"CONST 6", "INPUT 1", "ELEMENT 0"}) {
                taken(five, word, count);
                refused(five + ", CONST 6", word, -5);
                refused(five + ", INPUT 1", word, -5);
            }
        }
        String six = "CONST 1, CONST 2, CONST 3, CONST 4, INPUT 0, EACH, CONST 5, INPUT 1, EACH, ELEMENT 1";
        refused(six, "ELEMENT 1", -5);
    }

    private static void twoBlocks() {
        Due.sentence("for EACH and KEEP: two blocks are open: -5.");
        for (String kind : new String[] {"EACH", "KEEP"}) {
            for (String one : new String[] {"EACH", "KEEP"}) {
                for (String other : new String[] {"EACH", "KEEP"}) {
                    String two = "INPUT 0, " + one + ", INPUT 1, " + other + ", INPUT 0";
                    refused(two, kind, -5);
                    taken("INPUT 0, " + one + ", INPUT 1", kind, 4);
                    taken(two + ", SUM, END", kind, 8);
                    taken(two + ", SUM, END, SUM, END", kind, 10);
                }
            }
            refused("INPUT 0, EACH, INPUT 1, EACH, CONST 1", kind, -4);
        }
    }

    private static void answers() {
        Due.sentence("Puts a token at the end of the program. .. Else answers how many tokens there are.");
        VectorLanes x = Program.of("", THREE);
        String program = "INPUT 0, KEEP, INPUT 0, EACH, ELEMENT 0, ELEMENT 1, LESS, END, SUM, CONST 0, EQUAL, END, "
            + Program.times(14, "TURN, SCAN");
        int count = 0;
        for (String word : Program.words(program)) {
            count++;
            Due.is(word, Program.token(x, word), count);
        }
        Due.is("40 in all", count, 40);
        Due.row("put in their order", x, 7);
    }

    private static void sixForThreeKindsAlone() {
        Due.sentence("Promise 15: -5 for a stack with 6 expressions concerns CONST, INPUT and ELEMENT alone");
        for (int kind = Kinds.ADD; kind <= Kinds.KEEP; kind++) {
            String needs = Program.needs(kind);
            int count = Program.words(needs).size();
            String six = Program.times(6 - count, "CONST 1") + ", " + needs;
            VectorLanes x = Program.of(six, THREE, THREE);
            Due.is(Program.name(kind) + " on six", x.token(kind, 0), 7);
            String inBlock = Program.times(4 - count, "CONST 1") + ", INPUT 0, EACH, ELEMENT 0, ELEMENT 0, " + needs;
            VectorLanes y = Program.of(inBlock, THREE, THREE);
            Due.is("CONST on six in a block", Program.token(y, "CONST 1"), -5);
            Due.is(Program.name(kind) + " on six in a block", y.token(kind, 0), Program.words(inBlock).size() + 1);
        }
        for (int kind = Kinds.ADD; kind <= Kinds.KEEP; kind++) {
            if (!sorts("INPUT 0, CONST 1").endsWith(sorts(Program.needs(kind)))) {
                refused("CONST 1, CONST 1, CONST 1, CONST 1, INPUT 0, CONST 1", kind, 0, -4);
            }
        }
        refused(Program.times(6, "CONST 1"), "END", -4);
    }

    private static void endTakesTheNumber() {
        Due.sentence("Promise 15: END takes the number that stands there.");
        String five = "CONST 1, CONST 2, CONST 3, CONST 4, CONST 5, ";
        VectorLanes x = Program.of(five + "INPUT 0, EACH, ELEMENT 0", THREE);
        Due.is("six expressions", Program.token(x, "CONST 1"), -5);
        Due.is("END on six", Program.token(x, "END"), 9);
        Due.is("six expressions still", Program.token(x, "CONST 1"), -5);
        Program.put(x, "SUM, ADD, ADD, ADD, ADD, ADD");
        Due.number("the row stands in its place", x, 33);
        VectorLanes y = Program.of(five + "INPUT 0, KEEP, INPUT 0, EACH, ELEMENT 1", THREE);
        Due.is("END of the inner block on six", Program.token(y, "END"), 11);
        Due.is("six expressions still", Program.token(y, "ELEMENT 0"), -5);
        Due.is("a row can't end the outer one", Program.token(y, "END"), -4);
        Program.put(y, "SUM, END");
        Due.is("six expressions still", Program.token(y, "INPUT 0"), -5);
        VectorLanes z = Program.of("INPUT 0, EACH, ELEMENT 0, END", THREE);
        Due.row("nothing of the number is left", z, THREE);
        Program.put(z, Program.times(5, "CONST 1"));
        Due.is("the row is one of six", Program.token(z, "CONST 1"), -5);
    }
}
