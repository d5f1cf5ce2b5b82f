import java.util.Arrays;

/** Promises 1 to 5, 9 and 10, sentence by sentence. */
final class EdgesOfInputsTest {
    private static final int MIN = Integer.MIN_VALUE;
    private static final int MAX = Integer.MAX_VALUE;
    private static final int[] NO_INPUTS = {MIN, -3, -1, 3, 4, 8, MAX};
    private static final int[] NONE = {};
    private static final int[] THREE = {5, 6, 7};
    private static final int[] EIGHT = {4, -7, 0, 4, 9, -7, 1, 2};

    public static void main(String[] args) {
        Due.each(
            EdgesOfInputsTest::newInputs, EdgesOfInputsTest::newProgram, EdgesOfInputsTest::putInNoInput,
            EdgesOfInputsTest::putInFullInput, EdgesOfInputsTest::putAnswers, EdgesOfInputsTest::setInNoInput,
            EdgesOfInputsTest::setAtNoPlace, EdgesOfInputsTest::setAnswers, EdgesOfInputsTest::emptyOfNoInput,
            EdgesOfInputsTest::emptyAnswers, EdgesOfInputsTest::storeInNoInput,
            EdgesOfInputsTest::storeOfNothingWhole, EdgesOfInputsTest::storeOfRows,
            EdgesOfInputsTest::storeOfNumbers, EdgesOfInputsTest::sizeAnswers, EdgesOfInputsTest::sizeOfNoInput,
            EdgesOfInputsTest::inputAnswers, EdgesOfInputsTest::inputAtNoPlace);
        Due.end("EdgesOfInputsTest");
    }

    private static void inputs(VectorLanes x) {
        Kinds.fill(x, 0, NONE);
        Kinds.fill(x, 1, THREE);
        Kinds.fill(x, 2, EIGHT);
    }

    private static VectorLanes withInputs(String program) {
        return Program.of(program, NONE, THREE, EIGHT);
    }

    private static Twins.Calls state(String program) {
        return x -> {
            inputs(x);
            Program.put(x, program);
        };
    }

    /** The inputs i, i + 1 and so on, around from 2 to 0. */
    private static void rows(String what, VectorLanes x, int i, int[] atI, int[] atOthers) {
        Due.inputRow(what, x, i, atI);
        Due.inputRow(what + ", another one", x, (i + 1) % 3, atOthers);
        Due.inputRow(what + ", another one", x, (i + 2) % 3, atOthers);
    }

    private static void newInputs() {
        Due.sentence("Promise 1: All inputs are empty rows");
        VectorLanes x = new VectorLanes();
        for (int i = 0; i < 3; i++) {
            Due.inputRow("new", x, i);
            Due.is("new: empty(" + i + ")", x.empty(i), 0);
            Due.is("new: set(" + i + ", 0, 1)", x.set(i, 0, 1), -2);
            Due.is("new: put(" + i + ", 1)", x.put(i, 1), 1);
            Due.row("new: INPUT " + i, Program.of("INPUT " + i));
        }
    }

    private static void newProgram() {
        Due.sentence("Promise 1: no tokens.");
        Due.notWhole("new", new VectorLanes());
        Due.is("new: drop()", new VectorLanes().drop(), -1);
        Due.is("new: clear()", new VectorLanes().clear(), 0);
        Due.is("new: store(0)", new VectorLanes().store(0), -2);
        Due.is("new: token(0, 0)", new VectorLanes().token(0, 0), 1);
        Due.is("new: ELEMENT 0", new VectorLanes().token(Kinds.ELEMENT, 0), -3);
        for (int kind = Kinds.ADD; kind <= Kinds.END; kind++) {
            Due.is("new: " + Program.name(kind), new VectorLanes().token(kind, 0), -4);
        }
        VectorLanes used = withInputs("INPUT 2, EACH");
        Due.is("another object is new as well", new VectorLanes().clear(), 0);
        Due.is("one used has its tokens", used.clear(), 2);
    }

    private static void putInNoInput() {
        Due.sentence("Promise 2: i is not 0 to 2: -1");
        for (int i : NO_INPUTS) {
            Twins.refused("put(" + i + ", 1)", state(""), x -> x.put(i, 1), -1);
        }
        for (int i = 0; i < 3; i++) {
            Due.is("put(" + i + ", 1)", new VectorLanes().put(i, 1), 1);
        }
    }

    private static void putInFullInput() {
        Due.sentence("Promise 2: it has 8 elements: -2.");
        for (int i = 0; i < 3; i++) {
            int input = i;
            Twins.Calls full = x -> Kinds.fill(x, input, EIGHT);
            Twins.refused("put(" + i + ", 1) in a full row", full, x -> x.put(input, 1), -2);
            Twins.Calls stored = x -> {
                Program.put(x, "CONST 8, UPTO");
                Due.is("store(" + input + ")", x.store(input), 8);
            };
            Twins.refused("put(" + i + ", 1) in a stored full row", stored, x -> x.put(input, 1), -2);
            VectorLanes x = new VectorLanes();
            Kinds.fill(x, i, Arrays.copyOf(EIGHT, 7));
            Due.is("put(" + i + ", 1) in a row of 7", x.put(i, 1), 8);
        }
    }

    private static void putAnswers() {
        Due.sentence("Promise 2: Puts a number at the end of input i. .. Else answers how many it has.");
        for (int i = 0; i < 3; i++) {
            VectorLanes x = new VectorLanes();
            for (int p = 0; p < 8; p++) {
                Due.is("put(" + i + ", ..)", x.put(i, EIGHT[p]), p + 1);
                Due.is("size(" + i + ")", x.size(i), p + 1);
                Due.is("input(" + i + ", " + p + ")", x.input(i, p), EIGHT[p]);
                Due.is("input(" + i + ", " + (p + 1) + ")", x.input(i, p + 1), 0);
            }
            rows("put in " + i, x, i, EIGHT, NONE);
            Due.is("empty(" + i + ")", x.empty(i), 8);
            Due.is("put(" + i + ", MIN) then", x.put(i, MIN), 1);
            rows("put anew in " + i, x, i, Program.row(MIN), NONE);
        }
    }

    private static void setInNoInput() {
        Due.sentence("Promise 3: i is not 0 to 2: -1");
        for (int i : NO_INPUTS) {
            Twins.refused("set(" + i + ", 0, 9)", state(""), x -> x.set(i, 0, 9), -1);
            Twins.refused("set(" + i + ", -1, 9)", state(""), x -> x.set(i, -1, 9), -1);
        }
        for (int i = 0; i < 3; i++) {
            Due.is("set(" + i + ", 0, 9)", Program.of("", THREE, THREE, THREE).set(i, 0, 9), 1);
        }
    }

    private static void setAtNoPlace() {
        Due.sentence("Promise 3: there is no such place: -2.");
        for (int place : new int[] {MIN, -8, -1, 0, 1, 7, 8, MAX}) {
            Twins.refused("set(0, " + place + ", 9) of none", state(""), x -> x.set(0, place, 9), -2);
        }
        for (int place : new int[] {MIN, -8, -1, 3, 4, 7, 8, MAX}) {
            Twins.refused("set(1, " + place + ", 9) of three", state(""), x -> x.set(1, place, 9), -2);
        }
        for (int place : new int[] {MIN, -8, -1, 8, 9, 16, MAX}) {
            Twins.refused("set(2, " + place + ", 9) of eight", state(""), x -> x.set(2, place, 9), -2);
        }
        VectorLanes x = withInputs("");
        Due.is("the last place of three", x.set(1, 2, 9), 1);
        Due.is("the last place of eight", x.set(2, 7, 9), 1);
        Due.is("empty(2)", x.empty(2), 8);
        Due.is("the first place of an emptied row", x.set(2, 0, 9), -2);
    }

    private static void setAnswers() {
        Due.sentence("Promise 3: Sets the element of input i at a place. .. Else answers 1.");
        for (int i = 0; i < 3; i++) {
            for (int place = 0; place < 8; place++) {
                VectorLanes x = Program.of("", EIGHT, EIGHT, EIGHT);
                int[] want = EIGHT.clone();
                want[place] = MAX - place;
                Due.is("set(" + i + ", " + place + ", ..)", x.set(i, place, MAX - place), 1);
                rows("set in " + i, x, i, want, EIGHT);
            }
        }
    }

    private static void emptyOfNoInput() {
        Due.sentence("Promise 4: i is not 0 to 2: -1.");
        for (int i : NO_INPUTS) {
            Twins.refused("empty(" + i + ")", state(""), x -> x.empty(i), -1);
        }
        for (int i = 0; i < 3; i++) {
            Due.is("empty(" + i + ")", new VectorLanes().empty(i), 0);
        }
    }

    private static void emptyAnswers() {
        Due.sentence("Promise 4: Input i becomes an empty row. .. Else answers how many elements it had.");
        for (int i = 0; i < 3; i++) {
            for (int count = 0; count <= 8; count++) {
                VectorLanes x = Program.of("INPUT " + i, EIGHT, EIGHT, EIGHT);
                Kinds.fill(x, i, Arrays.copyOf(EIGHT, count));
                Due.is("empty(" + i + ")", x.empty(i), count);
                rows("emptied " + i, x, i, NONE, EIGHT);
                Due.row("INPUT then", x);
                Due.is("empty(" + i + ") again", x.empty(i), 0);
            }
        }
    }

    private static void storeInNoInput() {
        Due.sentence("Promise 5: i is not 0 to 2: -1");
        for (int i : NO_INPUTS) {
            Twins.refused("store(" + i + ") of a row", state("INPUT 2, SORT"), x -> x.store(i), -1);
            Twins.refused("store(" + i + ") of a number", state("INPUT 2, SUM"), x -> x.store(i), -1);
            Twins.refused("store(" + i + ") of nothing", state(""), x -> x.store(i), -1);
        }
        for (int i = 0; i < 3; i++) {
            Due.is("store(" + i + ")", withInputs("CONST 1").store(i), 1);
        }
    }

    private static void storeOfNothingWhole() {
        Due.sentence("Promise 5: the program is not whole: -2.");
        String[] programs = {
            "", "CONST 1, CONST 2", "INPUT 2, INPUT 1", "INPUT 2, EACH", "INPUT 2, EACH, CONST 1", "CONST 1, INPUT 2, KEEP",
            "INPUT 2, EACH, INPUT 1, KEEP, CONST 1", "INPUT 2, EACH, INPUT 1, KEEP, CONST 1, END",
        };
        for (String program : programs) {
            for (int i = 0; i < 3; i++) {
                int input = i;
                Twins.refused("store(" + i + ") of " + program, state(program), x -> x.store(input), -2);
            }
        }
    }

    private static void storeOfRows() {
        Due.sentence("Promise 5: Input i becomes the result, if that is a row .. "
            + "Else answers how many elements input i has then.");
        int[] ones = {1, 1, 1, 1, 1, 1, 1, 1};
        for (int i = 0; i < 3; i++) {
            int from = (i + 1) % 3;
            for (int count = 0; count <= 8; count++) {
                for (int had : new int[] {0, 3, 8}) {
                    int[] row = Arrays.copyOf(EIGHT, count);
                    VectorLanes x = Program.of("INPUT " + from);
                    Kinds.fill(x, from, row);
                    Kinds.fill(x, i, Arrays.copyOf(ones, had));
                    Due.is("store(" + i + ") where " + had + " stood", x.store(i), count);
                    Due.inputRow("stored", x, i, row);
                    Due.inputRow("read", x, from, row);
                    Due.inputRow("neither", x, (i + 2) % 3);
                    Due.is("put then", x.put(i, 3), count < 8 ? count + 1 : -2);
                }
            }
        }
        VectorLanes own = Program.of("INPUT 1, INPUT 1, TURN, JOIN", NONE, THREE);
        Due.is("its own input", own.store(1), 6);
        Due.inputRow("its own input", own, 1, 5, 6, 7, 7, 6, 5);
        Due.is("its own input again", own.store(1), 8);
        Due.inputRow("its own input again", own, 1, 5, 6, 7, 7, 6, 5, 5, 6);
        Due.is("the program stays", own.clear(), 4);
    }

    private static void storeOfNumbers() {
        Due.sentence("Promise 5: or the row with that one element, if it is a number.");
        for (int i = 0; i < 3; i++) {
            for (int v : new int[] {-99, 0, 99}) {
                VectorLanes x = Program.of("CONST " + v, EIGHT, EIGHT, EIGHT);
                Due.is("store(" + i + ")", x.store(i), 1);
                rows("stored in " + i, x, i, Program.row(v), EIGHT);
                Due.number("the program stays", x, v);
            }
        }
        VectorLanes own = Program.of("INPUT 0, SUM", Program.row(MAX, 1));
        Due.is("its own input", own.store(0), 1);
        Due.inputRow("its own input", own, 0, MIN);
    }

    private static void sizeAnswers() {
        Due.sentence("Promise 9: How many elements input i has");
        for (int i = 0; i < 3; i++) {
            for (int count = 0; count <= 8; count++) {
                VectorLanes x = Program.of("CONST 1", THREE, THREE, THREE);
                Kinds.fill(x, i, Arrays.copyOf(EIGHT, count));
                for (int k = 0; k < 3; k++) {
                    Due.is("size(" + k + ")", x.size(k), k == i ? count : 3);
                }
            }
        }
    }

    private static void sizeOfNoInput() {
        Due.sentence("Promise 9: -1 if i is not 0 to 2.");
        for (int i : NO_INPUTS) {
            Due.is("size(" + i + ")", withInputs("").size(i), -1);
        }
    }

    private static void inputAnswers() {
        Due.sentence("Promise 10: The element of input i at a place");
        VectorLanes x = Program.of("", EIGHT, THREE, Program.row(8, 7, 6, 5, 4, 3, 2, 1));
        for (int place = 0; place < 8; place++) {
            Due.is("input(0, " + place + ")", x.input(0, place), EIGHT[place]);
            Due.is("input(2, " + place + ")", x.input(2, place), 8 - place);
        }
        for (int place = 0; place < 3; place++) {
            Due.is("input(1, " + place + ")", x.input(1, place), THREE[place]);
        }
    }

    private static void inputAtNoPlace() {
        Due.sentence("Promise 10: 0 if there is none.");
        int[] ones = {1, 1, 1, 1, 1, 1, 1, 1};
        for (int count = 0; count <= 8; count++) {
            // Every row was full before, so that what stood there would show.
            VectorLanes x = Program.of("", ones, ones, ones);
            for (int i = 0; i < 3; i++) {
                Kinds.fill(x, i, Arrays.copyOf(ones, count));
            }
            for (int i = 0; i < 3; i++) {
                for (int place : new int[] {MIN, -9, -8, -1, count, count + 1, 8, 9, 16, MAX}) {
                    Due.is("input(" + i + ", " + place + ")", x.input(i, place), 0);
                }
            }
            for (int i : NO_INPUTS) {
                for (int place : new int[] {MIN, -8, -1, 0, 1, 7, 8, MAX}) {
                    Due.is("input(" + i + ", " + place + ")", x.input(i, place), 0);
                }
            }
        }
    }
}
