import java.util.function.IntUnaryOperator;

/** The sentences of "What it is" and "Terms" that name a bound or an order, but for the kinds and the blocks. */
final class EdgesOfTermsTest {
    private static final int MIN = Integer.MIN_VALUE;
    private static final int MAX = Integer.MAX_VALUE;
    private static final int[] WIDE = {MIN, -100, -99, -9, -8, -1, 0, 1, 2, 3, 7, 8, 9, 40, 99, 100, MAX};
    private static final String TWO_NUMBERS = "INPUT 0, CONST 0, AT, INPUT 0, CONST 1, AT, ";

    public static void main(String[] args) {
        Due.each(
            EdgesOfTermsTest::rowHasAtMostEight, EdgesOfTermsTest::rowIsOfInts, EdgesOfTermsTest::threeInputs,
            EdgesOfTermsTest::sumsWrap, EdgesOfTermsTest::differencesWrap, EdgesOfTermsTest::productsWrap,
            EdgesOfTermsTest::fortyTokens, EdgesOfTermsTest::stackOfSix, EdgesOfTermsTest::topIsTaken,
            EdgesOfTermsTest::lastNamedIsTop, EdgesOfTermsTest::whole, EdgesOfTermsTest::refusedChangesNothing,
            EdgesOfTermsTest::testsInTheirOrder, EdgesOfTermsTest::questionsChangeNothing,
            EdgesOfTermsTest::callsUpToTheLast);
        Due.end("EdgesOfTermsTest");
    }

    private static void rowHasAtMostEight() {
        Due.sentence("A ROW is a list of at most 8 ints, its elements at the places 0, 1, ...");
        int[] eight = {3, 1, 4, 1, 5, 9, 2, 6};
        for (int i = 0; i < 3; i++) {
            int input = i;
            VectorLanes x = new VectorLanes();
            for (int p = 0; p < 8; p++) {
                Due.is("element " + p, x.put(i, eight[p]), p + 1);
            }
            Due.inputRow("eight elements", x, i, eight);
            Twins.refused("ninth element", y -> Kinds.fill(y, input, eight), y -> y.put(input, 1), -2);
        }
        Due.row("INPUT", Program.of("INPUT 0", eight), eight);
        Due.row("JOIN", Program.of("INPUT 0, INPUT 0, JOIN", eight), eight);
        Due.row("UPTO", Program.of("CONST 9, UPTO"), 0, 1, 2, 3, 4, 5, 6, 7);
        Due.row("TURN", Program.of("INPUT 0, TURN", eight), 6, 2, 9, 5, 1, 4, 1, 3);
        Due.row("SCAN", Program.of("INPUT 0, SCAN", eight), 3, 4, 8, 9, 14, 23, 25, 31);
        Due.row("SORT", Program.of("INPUT 0, SORT", eight), 1, 1, 2, 3, 4, 5, 6, 9);
        Due.row("EACH", Program.of("INPUT 0, EACH, ELEMENT 0, END", eight), eight);
        Due.row("KEEP", Program.of("INPUT 0, KEEP, CONST 1, END", eight), eight);
    }

    private static void rowIsOfInts() {
        Due.sentence("A ROW is a list of at most 8 ints (the least and the greatest of them)");
        int[] widest = {MIN, MIN + 1, -1, 0, 1, MAX - 1, MAX};
        for (int v : widest) {
            VectorLanes x = Program.of("INPUT 2, EACH, ELEMENT 0, END");
            Due.is("put", x.put(2, v), 1);
            Due.inputRow("put", x, 2, v);
            Due.row("worked out", x, v);
            Due.is("store", x.store(1), 1);
            Due.inputRow("stored", x, 1, v);
            Due.is("set", x.set(1, 0, ~v), 1);
            Due.inputRow("set", x, 1, ~v);
        }
        Due.row("all at once", Program.of("INPUT 0", widest), widest);
    }

    private static void threeInputs() {
        Due.sentence("There are three INPUTS, 0 to 2, each a row.");
        VectorLanes x = new VectorLanes();
        for (int p = 0; p < 8; p++) {
            for (int i = 0; i < 3; i++) {
                Due.is("put(" + i + ", ..)", x.put(i, 10 * i + p), p + 1);
            }
        }
        for (int i = 0; i < 3; i++) {
            int b = 10 * i;
            Due.inputRow("a row of its own", x, i, b, b + 1, b + 2, b + 3, b + 4, b + 5, b + 6, b + 7);
        }
        for (int i : new int[] {-1, 3}) {
            Due.is("put(" + i + ", 1)", x.put(i, 1), -1);
            Due.is("set(" + i + ", 0, 1)", x.set(i, 0, 1), -1);
            Due.is("empty(" + i + ")", x.empty(i), -1);
            Due.is("store(" + i + ")", x.store(i), -1);
            Due.is("size(" + i + ")", x.size(i), -1);
            Due.is("input(" + i + ", 0)", x.input(i, 0), 0);
            Due.is("INPUT " + i, x.token(Kinds.INPUT, i), -1);
        }
    }

    private static int ofTwo(String kind, int n, int m) {
        VectorLanes x = Program.of(TWO_NUMBERS + kind, Program.row(n, m));
        return x.result(0);
    }

    private static void sumsWrap() {
        Due.sentence("Sums .. wrap as those of ints do.");
        Due.is("MAX - 1 and 1", ofTwo("ADD", MAX - 1, 1), MAX);
        Due.is("MAX and 1", ofTwo("ADD", MAX, 1), MIN);
        Due.is("MAX and MAX", ofTwo("ADD", MAX, MAX), -2);
        Due.is("MIN + 1 and -1", ofTwo("ADD", MIN + 1, -1), MIN);
        Due.is("MIN and -1", ofTwo("ADD", MIN, -1), MAX);
        Due.is("MIN and MIN", ofTwo("ADD", MIN, MIN), 0);
        Due.number("SUM up to MAX", Program.of("INPUT 0, SUM", Program.row(MAX - 2, 1, 1)), MAX);
        Due.number("SUM beyond MAX", Program.of("INPUT 0, SUM", Program.row(MAX - 2, 1, 1, 1)), MIN);
        Due.number("SUM below MIN", Program.of("INPUT 0, SUM", Program.row(MIN, -1)), MAX);
        VectorLanes x = Program.of("INPUT 0, SCAN", Program.row(MAX, 1, -1, 1, MIN));
        Due.row("SCAN there and back", x, MAX, MIN, MAX, MIN, 0);
        Due.is("mixture() up to MAX", Program.of("INPUT 0", Program.row(MAX - 2, 1)).mixture(), MAX);
        Due.is("mixture() beyond MAX", Program.of("INPUT 0", Program.row(MAX - 1, 1)).mixture(), MIN);
    }

    private static void differencesWrap() {
        Due.sentence("differences .. wrap as those of ints do.");
        Due.is("MIN + 1 less 1", ofTwo("SUB", MIN + 1, 1), MIN);
        Due.is("MIN less 1", ofTwo("SUB", MIN, 1), MAX);
        Due.is("MAX - 1 less -1", ofTwo("SUB", MAX - 1, -1), MAX);
        Due.is("MAX less -1", ofTwo("SUB", MAX, -1), MIN);
        Due.is("0 less MIN", ofTwo("SUB", 0, MIN), MIN);
        Due.is("MIN less MAX", ofTwo("SUB", MIN, MAX), 1);
    }

    private static void productsWrap() {
        Due.sentence("products wrap as those of ints do.");
        Due.is("46340 by 46340", ofTwo("MUL", 46340, 46340), 2147395600);
        Due.is("46341 by 46341", ofTwo("MUL", 46341, 46341), -2147479015);
        Due.is("65536 by 32767", ofTwo("MUL", 65536, 32767), 2147418112);
        Due.is("65536 by 32768", ofTwo("MUL", 65536, 32768), MIN);
        Due.is("65536 by 65536", ofTwo("MUL", 65536, 65536), 0);
        Due.is("MIN by -1", ofTwo("MUL", MIN, -1), MIN);
        Due.is("MAX by MAX", ofTwo("MUL", MAX, MAX), 1);
        Due.is("mixture() of a product", Program.of("INPUT 0", Program.row(0, 1 << 30)).mixture(), MIN);
    }

    private static String fortyEndingWith(int kind) {
        String needs = Program.needs(kind);
        int before = 39 - 1 - Program.words(needs).size();
        return "INPUT 1, " + Program.times(before, "TURN") + ", " + needs;
    }

    private static void fortyTokens() {
        Due.sentence("A PROGRAM is a list of at most 40 TOKENS.");
        for (int kind = 0; kind <= 21; kind++) {
            String upTo39 = fortyEndingWith(kind);
            String last = Program.name(kind);
            VectorLanes x = Program.of(upTo39);
            Due.is(last + " as the 40th", Program.token(x, last), 40);
            for (int k = 0; k <= 21; k++) {
                Due.is(Program.name(k) + " as the 41st", x.token(k, 0), -2);
            }
            Due.is("40 stay", x.drop(), 39);
            Due.is(last + " as the 40th again", Program.token(x, last), 40);
        }
    }

    private static void stackOfSix() {
        Due.sentence("on a stack of at most 6");
        for (String word : new String[] {"CONST 5", "INPUT 2"}) {
            VectorLanes x = new VectorLanes();
            for (int height = 1; height <= 6; height++) {
                Due.is(word + " to a height of " + height, Program.token(x, word), height);
            }
            Due.is("CONST as the seventh", Program.token(x, "CONST 5"), -5);
            Due.is("INPUT as the seventh", Program.token(x, "INPUT 2"), -5);
        }
        VectorLanes x = Program.of("CONST 1, CONST 2, CONST 3, CONST 4, INPUT 0, EACH, ELEMENT 0, ELEMENT 0");
        Due.is("ELEMENT as the seventh", Program.token(x, "ELEMENT 0"), -5);
        Program.put(x, "ADD, ELEMENT 0");
        Due.is("ELEMENT as the seventh again", Program.token(x, "ELEMENT 0"), -5);
        VectorLanes y = Program.of("INPUT 0, INPUT 1, INPUT 2, INPUT 0, INPUT 1, INPUT 2, JOIN, JOIN, JOIN, JOIN, JOIN",
            Program.row(1), Program.row(2), Program.row(3));
        Due.row("all six are held", y, 1, 2, 3, 1, 2, 3);
    }

    private static void topIsTaken() {
        Due.sentence("the tokens take what stands on top of it");
        VectorLanes x = Program.of("CONST 1, CONST 20, CONST 30, CONST 40, ADD");
        Due.notWhole("three expressions", x);
        Program.put(x, "SUB, ADD");
        Due.number("1 + (20 - (30 + 40))", x, -49);
        VectorLanes y = Program.of("CONST 8, INPUT 0, INPUT 1, SUM, AT, SUB", Program.row(5, 6, 7), Program.row(1, 1));
        Due.number("8 - 7", y, 1);
        Due.is("a row below a number", Program.token(Program.of("INPUT 0, CONST 1"), "LENGTH"), -4);
        Due.is("a number below a row", Program.token(Program.of("CONST 1, INPUT 0"), "UPTO"), -4);
        Due.is("numbers below a row", Program.token(Program.of("CONST 1, CONST 1, INPUT 0"), "ADD"), -4);
    }

    private static void lastNamedIsTop() {
        Due.sentence("the last one named being the top");
        Due.number("SUB n m", Program.of("CONST 9, CONST 4, SUB"), 5);
        Due.number("DIV n m", Program.of("CONST 9, CONST 4, DIV"), 2);
        Due.number("LESS n m", Program.of("CONST 4, CONST 9, LESS"), 1);
        Due.number("LESS n m", Program.of("CONST 9, CONST 4, LESS"), 0);
        Due.number("PICK n m k", Program.of("CONST 1, CONST 5, CONST 6, PICK"), 5);
        Due.number("PICK n m k", Program.of("CONST 0, CONST 5, CONST 6, PICK"), 6);
        Due.number("AT r n", Program.of("INPUT 0, CONST 1, AT", Program.row(7, 8)), 8);
        Due.is("AT with the row on top", Program.token(Program.of("CONST 1, INPUT 0"), "AT"), -4);
        Due.row("JOIN r t", Program.of("INPUT 0, INPUT 1, JOIN", Program.row(7), Program.row(8)), 7, 8);
    }

    private static void whole() {
        Due.sentence("A program is WHOLE if no block is open and just one expression is on its stack");
        int[] row = {4, 5};
        Due.notWhole("no expression", Program.of("", row));
        Due.number("one number", Program.of("CONST 3", row), 3);
        Due.row("one row", Program.of("INPUT 0", row), row);
        Due.notWhole("two numbers", Program.of("CONST 3, CONST 4", row));
        Due.notWhole("two rows", Program.of("INPUT 0, INPUT 0", row));
        Due.notWhole("six expressions", Program.of(Program.times(6, "CONST 1"), row));
        Due.notWhole("a block, no expression", Program.of("INPUT 0, EACH", row));
        Due.notWhole("a block, one below it", Program.of("CONST 3, INPUT 0, EACH", row));
        Due.notWhole("a block, one in it", Program.of("INPUT 0, KEEP, CONST 3", row));
        Due.notWhole("two blocks, one expression", Program.of("INPUT 0, EACH, INPUT 0, KEEP, CONST 3", row));
        Due.notWhole("inner block ended", Program.of("INPUT 0, EACH, INPUT 0, KEEP, CONST 3, END", row));
        Due.notWhole("block ended beside a number", Program.of("CONST 1, INPUT 0, KEEP, CONST 3, END", row));
        Due.row("block ended alone", Program.of("INPUT 0, KEEP, CONST 3, END", row), row);
    }

    private static void refusedChangesNothing() {
        Due.sentence("A refused call changes nothing.");
        for (State state : State.ALL) {
            int refused = refusedOfInputs(state) + refusedOfProgram(state);
            Due.is(state.name + ": refused calls were met (" + refused + ")", refused > 70 ? 1 : 0, 1);
        }
    }

    private static int refusedOfInputs(State state) {
        int refused = 0;
        for (int i : new int[] {MIN, -1, 0, 1, 2, 3, MAX}) {
            refused += unlessTaken(state, "put(" + i + ", 77)", x -> x.put(i, 77), y -> y.put(i, 77));
            refused += unlessTaken(state, "empty(" + i + ")", x -> x.empty(i), y -> y.empty(i));
            refused += unlessTaken(state, "store(" + i + ")", x -> x.store(i), y -> y.store(i));
            for (int place : new int[] {MIN, -1, 0, 1, 3, 7, 8, MAX}) {
                String call = "set(" + i + ", " + place + ", 77)";
                refused += unlessTaken(state, call, x -> x.set(i, place, 77), y -> y.set(i, place, 77));
            }
        }
        return refused;
    }

    private static int refusedOfProgram(State state) {
        int refused = unlessTaken(state, "drop()", VectorLanes::drop, Model::drop);
        for (int kind = -1; kind <= 22; kind++) {
            int k = kind;
            for (int a : new int[] {MIN, -100, -99, -1, 0, 1, 2, 3, 99, 100, MAX}) {
                String call = "token(" + kind + ", " + a + ")";
                refused += unlessTaken(state, call, x -> x.token(k, a), y -> y.token(k, a));
            }
        }
        return refused;
    }

    private interface ModelCall {
        int on(Model y);
    }

    private static int unlessTaken(State state, String call, Twins.Call ofLanes, ModelCall ofModel) {
        Model y = new Model();
        state.on(y);
        int want = ofModel.on(y);
        if (want >= 0) {
            return 0;
        }
        Twins.refused(call + " in the state " + state.name, state::on, ofLanes, want);
        return 1;
    }

    private static void testsInTheirOrder() {
        Due.sentence("The tests of a call are made in the order in which they are named.");
        VectorLanes full = Program.of("", new int[8], new int[8], new int[8]);
        Due.is("put: no input, and all are full", full.put(3, 1), -1);
        Due.is("put: no input, and all are full", full.put(-1, 1), -1);
        VectorLanes none = new VectorLanes();
        Due.is("set: no input, and no such place", none.set(3, 0, 1), -1);
        Due.is("set: no input, and no such place", none.set(-1, -1, 1), -1);
        Due.is("store: no input, and not whole", none.store(3), -1);
        Due.is("store: no input, and not whole", none.store(-1), -1);
        VectorLanes blocks = Program.of("INPUT 0, EACH, INPUT 0, KEEP");
        Due.is("EACH: no row, and two blocks are open", Program.token(blocks, "EACH"), -4);
        Due.is("KEEP: no row, and two blocks are open", Program.token(blocks, "KEEP"), -4);
        Program.put(blocks, "CONST 1, CONST 2, CONST 3, CONST 4, CONST 5, CONST 6");
        Due.is("ELEMENT: not open, and six expressions", Program.token(blocks, "ELEMENT 2"), -3);
        Due.is("CONST: no such a, and six expressions", Program.token(blocks, "CONST 100"), -1);
        Due.is("INPUT: no such a, and six expressions", Program.token(blocks, "INPUT 3"), -1);
        Program.put(blocks, Program.times(14, "UPTO, LENGTH") + ", UPTO, SUM");
        Due.is("kind 22, and 40 tokens", blocks.token(22, 0), -1);
        Due.is("kind -1, and 40 tokens", blocks.token(-1, 0), -1);
        Due.is("CONST: no such a, and 40 tokens", Program.token(blocks, "CONST -100"), -1);
        Due.is("INPUT: no such a, and 40 tokens", Program.token(blocks, "INPUT -1"), -1);
        Due.is("ELEMENT: 40 tokens, and not open", Program.token(blocks, "ELEMENT 2"), -2);
        Due.is("LENGTH: 40 tokens, and no row", Program.token(blocks, "LENGTH"), -2);
        Due.is("END: 40 tokens, and six in the block", Program.token(blocks, "END"), -2);
        Due.is("CONST: 40 tokens, and six expressions", Program.token(blocks, "CONST 1"), -2);
        Due.is("40 tokens there were", blocks.clear(), 40);
        Program.put(blocks, "INPUT 0, EACH, INPUT 0, KEEP, INPUT 0, " + Program.times(35, "TURN"));
        Due.is("EACH: 40 tokens, and two blocks are open", Program.token(blocks, "EACH"), -2);
        Due.is("KEEP: 40 tokens, and two blocks are open", Program.token(blocks, "KEEP"), -2);
    }

    private static void questionsChangeNothing() {
        Due.sentence("questions; they change nothing.");
        for (State state : State.ALL) {
            Twins.alike("after questions in the state " + state.name, state::on, x -> {
                state.on(x);
                for (int p : WIDE) {
                    x.size(p);
                    x.result(p);
                    x.input(0, p);
                    x.input(1, p);
                    x.input(2, p);
                    x.input(p, 0);
                }
                x.sort();
                x.length();
                x.mixture();
            });
        }
    }

    /** Two calls to begin with, and then the same one up to the 512th. */
    private static void sameCalls(String name, Twins.Call call, IntUnaryOperator want) {
        VectorLanes x = new VectorLanes();
        x.put(0, 3);
        x.token(Kinds.INPUT, 0);
        for (int k = 0; k < 510; k++) {
            Due.is(name + ", call " + (k + 3), call.on(x), want.applyAsInt(k));
        }
    }

    private static void callsUpToTheLast() {
        Due.sentence("An object is used for at most 512 calls after it has been made");
        VectorLanes puts = new VectorLanes();
        VectorLanes tokens = new VectorLanes();
        for (int call = 0; call < 512; call++) {
            int turn = call % 9;
            int had = turn < 8 ? puts.put(1, call) : puts.empty(1);
            Due.is("call " + call + " of puts", had, turn < 8 ? turn + 1 : 8);
            int step = call % 64;
            int left = step < 32 ? tokens.token(step == 0 ? Kinds.INPUT : Kinds.TURN, 0) : tokens.drop();
            Due.is("call " + call + " of tokens", left, step < 32 ? step + 1 : 63 - step);
        }
        sameCalls("put", x -> x.put(0, 1), k -> k < 7 ? k + 2 : -2);
        sameCalls("set", x -> x.set(0, 0, 1), k -> 1);
        sameCalls("empty", x -> x.empty(0), k -> k < 1 ? 1 : 0);
        sameCalls("store", x -> x.store(1), k -> 1);
        sameCalls("token", x -> x.token(Kinds.TURN, 0), k -> k < 39 ? k + 2 : -2);
        sameCalls("drop", VectorLanes::drop, k -> k < 1 ? 0 : -1);
        sameCalls("clear", VectorLanes::clear, k -> k < 1 ? 1 : 0);
        sameCalls("size", x -> x.size(0), k -> 1);
        sameCalls("input", x -> x.input(0, 0), k -> 3);
        sameCalls("sort", VectorLanes::sort, k -> 2);
        sameCalls("length", VectorLanes::length, k -> 1);
        sameCalls("result", x -> x.result(0), k -> 3);
        sameCalls("mixture", VectorLanes::mixture, k -> 3);
        VectorLanes stores = new VectorLanes();
        stores.put(0, 0);
        Program.put(stores, "INPUT 0, EACH, ELEMENT 0, CONST 1, ADD, END");
        for (int call = 8; call <= 510; call++) {
            Due.is("call " + call, stores.store(0), 1);
        }
        Due.is("call 511", stores.result(0), 504);
        Due.is("call 512", stores.input(0, 0), 503);
    }
}
