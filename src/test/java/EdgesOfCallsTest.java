import java.util.Arrays;

/** Promises 1 to 5 and 7 to 14, sentence by sentence. */
final class EdgesOfCallsTest {
    private static final int MIN = Integer.MIN_VALUE;
    private static final int MAX = Integer.MAX_VALUE;
    private static final int[] NO_INPUTS = {MIN, -3, -1, 3, 4, 8, MAX};
    private static final int[] NONE = {};
    private static final int[] THREE = {5, 6, 7};
    private static final int[] EIGHT = {4, -7, 0, 4, 9, -7, 1, 2};

    public static void main(String[] args) {
        newInputs();
        newProgram();
        putIsRefused();
        putAnswers();
        setIsRefused();
        setAnswers();
        emptyIsRefused();
        emptyAnswers();
        storeIsRefused();
        storeOfRows();
        storeOfNumbers();
        dropIsRefused();
        dropOfEachToken();
        dropAnswers();
        clearAnswers();
        sizeAnswers();
        inputAnswers();
        sortAnswers();
        lengthAnswers();
        resultAnswers();
        mixtureAnswers();
        Due.end("EdgesOfCallsTest");
    }

    private static void inputs(VectorLanes x) {
        Kinds.fill(x, 0, NONE);
        Kinds.fill(x, 1, THREE);
        Kinds.fill(x, 2, EIGHT);
    }

    private static VectorLanes withInputs(String program) {
        return Program.of(program, NONE, THREE, EIGHT);
    }

    private static void newInputs() {
        Due.sentence("Promise 1: All inputs are empty rows");
        VectorLanes x = new VectorLanes();
        for (int i = 0; i < 3; i++) {
            Due.inputRow("new", x, i);
            Due.is("new: empty(" + i + ")", x.empty(i), 0);
            Due.is("new: set(" + i + ", 0, 1)", x.set(i, 0, 1), -2);
            Due.is("new: put(" + i + ", 1)", x.put(i, 1), 1);
            Due.row("new: INPUT " + i, Program.of("INPUT " + i));
        }
    }

    private static void newProgram() {
        Due.sentence("Promise 1: no tokens.");
        Due.notWhole("new", new VectorLanes());
        Due.is("new: drop()", new VectorLanes().drop(), -1);
        Due.is("new: clear()", new VectorLanes().clear(), 0);
        Due.is("new: store(0)", new VectorLanes().store(0), -2);
        Due.is("new: token(0, 0)", new VectorLanes().token(0, 0), 1);
        Due.is("new: ELEMENT 0", new VectorLanes().token(Kinds.ELEMENT, 0), -3);
        for (int kind = Kinds.ADD; kind <= Kinds.END; kind++) {
            Due.is("new: " + Program.name(kind), new VectorLanes().token(kind, 0), -4);
        }
        VectorLanes used = withInputs("INPUT 2, EACH");
        Due.is("another object is new as well", new VectorLanes().clear(), 0);
        Due.is("one used has its tokens", used.clear(), 2);
    }

    private static void putIsRefused() {
        Due.sentence("Promise 2: i is not 0 to 2: -1; it has 8 elements: -2.");
        for (int i : NO_INPUTS) {
            Twins.refused("put(" + i + ", 1)", EdgesOfCallsTest::inputs, x -> x.put(i, 1), -1);
        }
        for (int i = 0; i < 3; i++) {
            int input = i;
            Twins.refused("put(" + i + ", 1) in a full row", x -> Kinds.fill(x, input, EIGHT), x -> x.put(input, 1), -2);
            Twins.refused("put(" + i + ", 1) in a stored full row", x -> {
                Program.put(x, "CONST 8, UPTO");
                Due.is("store(" + input + ")", x.store(input), 8);
            }, x -> x.put(input, 1), -2);
        }
    }

    private static void putAnswers() {
        Due.sentence("Promise 2: Puts a number at the end of input i. .. Else answers how many it has.");
        for (int i = 0; i < 3; i++) {
            VectorLanes x = new VectorLanes();
            for (int p = 0; p < 8; p++) {
                Due.is("put(" + i + ", ..)", x.put(i, EIGHT[p]), p + 1);
                Due.is("size(" + i + ")", x.size(i), p + 1);
                Due.is("input(" + i + ", " + p + ")", x.input(i, p), EIGHT[p]);
                Due.is("input(" + i + ", " + (p + 1) + ")", x.input(i, p + 1), 0);
            }
            Due.is("one is taken away", x.empty(i), 8);
            Due.is("put(" + i + ", MIN) then", x.put(i, MIN), 1);
            Due.inputRow("put anew", x, i, MIN);
        }
    }

    private static void setIsRefused() {
        Due.sentence("Promise 3: i is not 0 to 2: -1; there is no such place: -2.");
        for (int i : NO_INPUTS) {
            Twins.refused("set(" + i + ", 0, 9)", EdgesOfCallsTest::inputs, x -> x.set(i, 0, 9), -1);
            Due.is("set(" + i + ", -1, 9)", withInputs("").set(i, -1, 9), -1);
        }
        for (int place : new int[] {MIN, -8, -1, 3, 4, 7, 8, MAX}) {
            Twins.refused("set(1, " + place + ", 9)", EdgesOfCallsTest::inputs, x -> x.set(1, place, 9), -2);
        }
        for (int place : new int[] {MIN, -1, 8, 9, 16, MAX}) {
            Twins.refused("set(2, " + place + ", 9)", EdgesOfCallsTest::inputs, x -> x.set(2, place, 9), -2);
        }
        for (int place : new int[] {-1, 0, 1, 8}) {
            Twins.refused("set(0, " + place + ", 9)", EdgesOfCallsTest::inputs, x -> x.set(0, place, 9), -2);
        }
        VectorLanes x = withInputs("");
        Due.is("empty(2)", x.empty(2), 8);
        Due.is("set(2, 0, 9) in an emptied row", x.set(2, 0, 9), -2);
    }

    private static void setAnswers() {
        Due.sentence("Promise 3: Sets the element of input i at a place. .. Else answers 1.");
        for (int i = 0; i < 3; i++) {
            for (int place = 0; place < 8; place++) {
                VectorLanes x = Program.of("", EIGHT, EIGHT, EIGHT);
                int[] want = EIGHT.clone();
                want[place] = MAX - place;
                Due.is("set(" + i + ", " + place + ", ..)", x.set(i, place, MAX - place), 1);
                for (int k = 0; k < 3; k++) {
                    Due.inputRow("set in " + i, x, k, k == i ? want : EIGHT);
                }
            }
        }
        VectorLanes x = withInputs("");
        Due.is("the last of three", x.set(1, 2, 0), 1);
        Due.inputRow("set", x, 1, 5, 6, 0);
    }

    private static void emptyIsRefused() {
        Due.sentence("Promise 4: i is not 0 to 2: -1.");
        for (int i : NO_INPUTS) {
            Twins.refused("empty(" + i + ")", EdgesOfCallsTest::inputs, x -> x.empty(i), -1);
        }
    }

    private static void emptyAnswers() {
        Due.sentence("Promise 4: Input i becomes an empty row. .. Else answers how many elements it had.");
        for (int i = 0; i < 3; i++) {
            for (int count = 0; count <= 8; count++) {
                VectorLanes x = Program.of("INPUT " + i, EIGHT, EIGHT, EIGHT);
                Kinds.fill(x, i, Arrays.copyOf(EIGHT, count));
                Due.is("empty(" + i + ")", x.empty(i), count);
                for (int k = 0; k < 3; k++) {
                    Due.inputRow("emptied " + i, x, k, k == i ? NONE : EIGHT);
                }
                Due.row("INPUT then", x);
                Due.is("empty(" + i + ") again", x.empty(i), 0);
            }
        }
    }

    private static void storeIsRefused() {
        Due.sentence("Promise 5: i is not 0 to 2: -1; the program is not whole: -2.");
        String[] programs = {"", "CONST 1, CONST 2", "INPUT 2, INPUT 1", "INPUT 2, EACH", "INPUT 2, EACH, CONST 1",
            "CONST 1, INPUT 2, KEEP", "INPUT 2, EACH, INPUT 1, KEEP, CONST 1", "INPUT 2, EACH, INPUT 1, KEEP, CONST 1, END"};
        for (String program : programs) {
            Twins.Calls before = x -> {
                inputs(x);
                Program.put(x, program);
            };
            for (int i = 0; i < 3; i++) {
                int input = i;
                Twins.refused("store(" + i + ") of " + program, before, x -> x.store(input), -2);
            }
            Twins.refused("store(3) of " + program, before, x -> x.store(3), -1);
        }
        for (int i : NO_INPUTS) {
            Twins.refused("store(" + i + ") of a row", x -> {
                inputs(x);
                Program.put(x, "INPUT 2, SORT");
            }, x -> x.store(i), -1);
        }
    }

    private static void storeOfRows() {
        Due.sentence("Promise 5: Input i becomes the result, if that is a row .. answers how many elements input i has then.");
        for (int i = 0; i < 3; i++) {
            for (int count = 0; count <= 8; count++) {
                int[] row = Arrays.copyOf(EIGHT, count);
                for (int had : new int[] {0, 3, 8}) {
                    VectorLanes x = new VectorLanes();
                    Kinds.fill(x, (i + 1) % 3, row);
                    Kinds.fill(x, i, Arrays.copyOf(new int[] {1, 1, 1, 1, 1, 1, 1, 1}, had));
                    Program.put(x, "INPUT " + (i + 1) % 3);
                    Due.is("store(" + i + ") where " + had + " stood", x.store(i), count);
                    Due.inputRow("stored", x, i, row);
                    Due.inputRow("read", x, (i + 1) % 3, row);
                    Due.inputRow("neither", x, (i + 2) % 3);
                    Due.is("put then", x.put(i, 3), count < 8 ? count + 1 : -2);
                }
            }
        }
        VectorLanes own = Program.of("INPUT 1, INPUT 1, TURN, JOIN", NONE, THREE);
        Due.is("its own input", own.store(1), 6);
        Due.inputRow("its own input", own, 1, 5, 6, 7, 7, 6, 5);
        Due.is("its own input again", own.store(1), 8);
        Due.inputRow("its own input again", own, 1, 5, 6, 7, 7, 6, 5, 5, 6);
        Due.is("the program stays", own.clear(), 4);
    }

    private static void storeOfNumbers() {
        Due.sentence("Promise 5: or the row with that one element, if it is a number.");
        for (int i = 0; i < 3; i++) {
            for (int v : new int[] {-99, 0, 99}) {
                VectorLanes x = Program.of("CONST " + v, EIGHT, EIGHT, EIGHT);
                Due.is("store(" + i + ")", x.store(i), 1);
                for (int k = 0; k < 3; k++) {
                    Due.inputRow("stored in " + i, x, k, k == i ? Program.row(v) : EIGHT);
                }
                Due.number("the program stays", x, v);
            }
        }
        VectorLanes own = Program.of("INPUT 0, SUM", Program.row(MAX, 1));
        Due.is("its own input", own.store(0), 1);
        Due.inputRow("its own input", own, 0, MIN);
    }

    private static void dropIsRefused() {
        Due.sentence("Promise 7: There is none: -1.");
        Twins.refused("drop() of a new object", x -> { }, VectorLanes::drop, -1);
        Twins.refused("drop() of no tokens", EdgesOfCallsTest::inputs, VectorLanes::drop, -1);
        Twins.refused("drop() of none that are left", x -> {
            inputs(x);
            Program.put(x, "INPUT 2");
            Due.is("drop()", x.drop(), 0);
        }, VectorLanes::drop, -1);
        Twins.refused("drop() after clear()", x -> {
            inputs(x);
            Program.put(x, "INPUT 2, EACH, CONST 1");
            Due.is("clear()", x.clear(), 3);
        }, VectorLanes::drop, -1);
    }

    /** Each kind of token in each state where it is taken: put and dropped, nothing is seen of it. */
    private static void dropOfEachToken() {
        Due.sentence("Promise 7: Takes the last token away; all is as before it was put.");
        boolean[] met = new boolean[22];
        for (State state : State.ALL) {
            for (int kind = 0; kind <= 21; kind++) {
                for (int a = 0; a < (kind == Kinds.ELEMENT ? 2 : 1); a++) {
                    Model y = new Model();
                    state.on(y);
                    if (y.token(kind, a) > 0) {
                        met[kind] = true;
                        dropped(state, kind, a);
                    }
                }
            }
        }
        for (int kind = 0; kind <= 21; kind++) {
            Due.is(Program.name(kind) + " was put and dropped", met[kind] ? 1 : 0, 1);
        }
    }

    private static void dropped(State state, int kind, int a) {
        Twins.alike(Program.name(kind) + " " + a + " put and dropped in the state " + state.name, state::on, x -> {
            state.on(x);
            int count = x.token(kind, a);
            Due.is("drop()", x.drop(), count - 1);
        });
        Twins.alike(Program.name(kind) + " " + a + " put, asked of and dropped in the state " + state.name, state::on, x -> {
            state.on(x);
            int count = x.token(kind, a);
            x.mixture();
            x.token(Kinds.CONST, 1);
            x.token(Kinds.CONST, 2);
            while (x.drop() >= count) {
                x.length();
            }
        });
    }

    private static void dropAnswers() {
        Due.sentence("Promise 7: Else answers how many are left.");
        VectorLanes x = withInputs("INPUT 2, EACH, INPUT 1, KEEP, ELEMENT 1, END, " + Program.times(34, "TURN"));
        for (int left = 39; left >= 0; left--) {
            Due.is("drop() of " + (left + 1), x.drop(), left);
        }
        Due.is("drop() of none", x.drop(), -1);
        Due.is("a token then", Program.token(x, "CONST 1"), 1);
    }

    private static void clearAnswers() {
        Due.sentence("Promise 8: Takes all tokens away; answers how many there were.");
        for (State state : State.ALL) {
            VectorLanes x = new VectorLanes();
            Model y = new Model();
            state.on(x);
            state.on(y);
            Due.is("clear() in the state " + state.name, x.clear(), y.clear());
            Due.is("clear() again", x.clear(), 0);
            Due.notWhole("cleared", x);
            Twins.alike("cleared, as though all had been dropped, in the state " + state.name, z -> {
                state.on(z);
                while (z.drop() > 0) {
                    z.sort();
                }
            }, z -> {
                state.on(z);
                z.clear();
            });
        }
        for (int count = 0; count <= 40; count++) {
            VectorLanes x = Program.of(count == 0 ? "" : "INPUT 0, " + Program.times(count - 1, "TURN"));
            Due.is("clear() of " + count, x.clear(), count);
        }
    }

    private static void sizeAnswers() {
        Due.sentence("Promise 9: How many elements input i has; -1 if i is not 0 to 2.");
        VectorLanes x = withInputs("CONST 1");
        Due.is("size(0)", x.size(0), 0);
        Due.is("size(1)", x.size(1), 3);
        Due.is("size(2)", x.size(2), 8);
        for (int i : NO_INPUTS) {
            Due.is("size(" + i + ")", x.size(i), -1);
        }
    }

    private static void inputAnswers() {
        Due.sentence("Promise 10: The element of input i at a place; 0 if there is none.");
        VectorLanes x = Program.of("", EIGHT, THREE, EIGHT);
        for (int place = 0; place < 8; place++) {
            Due.is("input(0, " + place + ")", x.input(0, place), EIGHT[place]);
            Due.is("input(1, " + place + ")", x.input(1, place), place < 3 ? THREE[place] : 0);
            Due.is("input(2, " + place + ")", x.input(2, place), EIGHT[place]);
        }
        for (int place : new int[] {MIN, -9, -8, -1, 8, 9, 16, MAX}) {
            for (int i = 0; i < 3; i++) {
                Due.is("input(" + i + ", " + place + ")", x.input(i, place), 0);
            }
        }
        for (int i : NO_INPUTS) {
            for (int place : new int[] {-1, 0, 1, 8}) {
                Due.is("input(" + i + ", " + place + ")", x.input(i, place), 0);
            }
        }
        Due.is("empty(0)", x.empty(0), 8);
        Due.inputRow("emptied", x, 0);
        Due.is("put(0, 3)", x.put(0, 3), 1);
        Due.inputRow("begun anew", x, 0, 3);
    }

    private static final String[] NOT_WHOLE = {
        "", "CONST 1, CONST 2", "INPUT 1, INPUT 2", "INPUT 1, CONST 1", "INPUT 2, EACH", "INPUT 2, KEEP, ELEMENT 0",
        "INPUT 2, EACH, INPUT 1", "CONST 4, INPUT 2, EACH", "INPUT 2, EACH, INPUT 1, KEEP, ELEMENT 1",
        "INPUT 2, EACH, INPUT 1, KEEP, ELEMENT 1, END", "CONST 4, INPUT 2, EACH, ELEMENT 0, END",
    };

    private static void sortAnswers() {
        Due.sentence("Promise 11: 1 if the program is whole and its result is a number, 2 if it is a row, 0 if the program is not whole.");
        int[] gives = {1, 2, 0, 1, 1, 1, 1, 1, 1, 1, 1, 1, 1, 1, 2, 2, 2, 2, 2, 0, 0, 2};
        for (int kind = 0; kind <= 21; kind++) {
            VectorLanes x = Program.of(Program.needs(kind));
            Due.is(Program.name(kind) + " is taken", x.token(kind, 0) > 0 ? 1 : 0, 1);
            Due.is("sort() after " + Program.name(kind), x.sort(), gives[kind]);
        }
        Due.is("sort() of an empty row", withInputs("INPUT 0").sort(), 2);
        Due.is("sort() of a row of one", Program.of("INPUT 0", Program.row(1)).sort(), 2);
        for (String program : NOT_WHOLE) {
            Due.is("sort() of " + program, withInputs(program).sort(), 0);
        }
    }

    private static void lengthAnswers() {
        Due.sentence("Promise 12: How many elements the result has (1 for a number); -1 if the program is not whole.");
        for (int count = 0; count <= 8; count++) {
            Due.is("length() of a row of " + count, Program.of("CONST " + count + ", UPTO").length(), count);
        }
        for (int v : new int[] {-99, -1, 0, 1, 2, 8, 99}) {
            Due.is("length() of the number " + v, Program.of("CONST " + v).length(), 1);
        }
        for (String program : NOT_WHOLE) {
            Due.is("length() of " + program, withInputs(program).length(), -1);
        }
    }

    private static void resultAnswers() {
        Due.sentence("Promise 13: The result's element at a place (place 0 for a number); 0 if there is none, or the program is not whole.");
        VectorLanes eight = withInputs("INPUT 2");
        VectorLanes three = withInputs("INPUT 1");
        VectorLanes none = withInputs("INPUT 0");
        VectorLanes number = withInputs("INPUT 2, MOST");
        for (int place = 0; place < 8; place++) {
            Due.is("result(" + place + ") of eight", eight.result(place), EIGHT[place]);
            Due.is("result(" + place + ") of three", three.result(place), place < 3 ? THREE[place] : 0);
            Due.is("result(" + place + ") of none", none.result(place), 0);
            Due.is("result(" + place + ") of a number", number.result(place), place == 0 ? 9 : 0);
        }
        for (int place : new int[] {MIN, -9, -8, -1, 8, 9, 16, 47, 48, MAX}) {
            Due.is("result(" + place + ") of eight", eight.result(place), 0);
            Due.is("result(" + place + ") of three", three.result(place), 0);
            Due.is("result(" + place + ") of none", none.result(place), 0);
            Due.is("result(" + place + ") of a number", number.result(place), 0);
        }
        for (String program : NOT_WHOLE) {
            VectorLanes x = withInputs("INPUT 2");
            Due.is("result(0) while whole", x.result(0), 4);
            x.clear();
            Program.put(x, program);
            for (int place : new int[] {-1, 0, 1, 7, 8}) {
                Due.is("result(" + place + ") of " + program, x.result(place), 0);
            }
        }
    }

    private static void mixtureAnswers() {
        Due.sentence("Promise 14: The sum of the products of each element of the result with its place and 1 added (wrapping); 0 if the program is not whole.");
        Due.is("of none", withInputs("INPUT 0").mixture(), 0);
        Due.is("of three", withInputs("INPUT 1").mixture(), 5 + 12 + 21);
        Due.is("of eight", withInputs("INPUT 2").mixture(), 4 - 14 + 16 + 45 - 42 + 7 + 16);
        Due.is("of a number", withInputs("CONST -77").mixture(), -77);
        Due.is("a product at its bound", Program.of("INPUT 0", Program.row(0, 1073741823)).mixture(), MAX - 1);
        Due.is("a product that wraps", Program.of("INPUT 0", Program.row(0, 1073741824)).mixture(), MIN);
        Due.is("a sum at its bound", Program.of("INPUT 0", Program.row(1, 1073741823)).mixture(), MAX);
        Due.is("a sum that wraps", Program.of("INPUT 0", Program.row(2, 1073741823)).mixture(), MIN);
        Due.is("the eighth place", Program.of("INPUT 0", Program.row(0, 0, 0, 0, 0, 0, 0, MAX)).mixture(), -8);
        for (String program : NOT_WHOLE) {
            Due.is("mixture() of " + program, withInputs(program).mixture(), 0);
        }
    }
}
