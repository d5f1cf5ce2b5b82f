/** Promises 1 to 4, 9 and 10: a new object, put, set, empty, size, input. */
final class InputsTest {
    private static final int[] BAD_INPUTS = {-1, 3, 4, -3, 8, Integer.MIN_VALUE, Integer.MAX_VALUE};

    public static void main(String[] args) {
        newObject();
        putting();
        setting();
        emptying();
        wrongInputs();
        Due.end("InputsTest");
    }

    private static void newObject() {
        VectorLanes x = new VectorLanes();
        for (int i = 0; i < 3; i++) {
            Due.inputRow("new", x, i);
        }
        Due.notWhole("new", x);
        Due.is("new: drop()", x.drop(), -1);
        Due.is("new: clear()", x.clear(), 0);
        Due.is("new: empty(1)", x.empty(1), 0);
        Due.is("new: store(1)", x.store(1), -2);
        Due.is("new: set(1, 0, 5)", x.set(1, 0, 5), -2);
        Due.is("new: first token", x.token(Kinds.CONST, 1), 1);
        VectorLanes y = new VectorLanes();
        Due.notWhole("another object", y);
    }

    private static void putting() {
        VectorLanes x = new VectorLanes();
        for (int i = 0; i < 3; i++) {
            for (int p = 0; p < 8; p++) {
                Due.is("put(" + i + ", ..)", x.put(i, 100 * i + p), p + 1);
            }
        }
        for (int i = 0; i < 3; i++) {
            Due.is("put in a full row", x.put(i, 5), -2);
            int b = 100 * i;
            Due.inputRow("full", x, i, b, b + 1, b + 2, b + 3, b + 4, b + 5, b + 6, b + 7);
        }
        VectorLanes y = new VectorLanes();
        Kinds.fill(y, 2, Integer.MIN_VALUE, Integer.MAX_VALUE, 0);
        Due.inputRow("widest", y, 2, Integer.MIN_VALUE, Integer.MAX_VALUE, 0);
        Due.inputRow("untouched", y, 0);
        Due.inputRow("untouched", y, 1);
    }

    private static void setting() {
        VectorLanes x = new VectorLanes();
        Kinds.fill(x, 0, 1, 2, 3);
        Kinds.fill(x, 1, 4, 5);
        Due.is("set(0, 0, 7)", x.set(0, 0, 7), 1);
        Due.is("set(0, 2, -9)", x.set(0, 2, -9), 1);
        Due.is("set(1, 1, min)", x.set(1, 1, Integer.MIN_VALUE), 1);
        Due.is("set(0, 3, 1)", x.set(0, 3, 1), -2);
        Due.is("set(0, -1, 1)", x.set(0, -1, 1), -2);
        Due.is("set(1, -1, 1)", x.set(1, -1, 1), -2);
        Due.is("set(1, -8, 1)", x.set(1, -8, 1), -2);
        Due.is("set(0, 8, 1)", x.set(0, 8, 1), -2);
        Due.is("set(2, 0, 1)", x.set(2, 0, 1), -2);
        Due.is("set(0, max, 1)", x.set(0, Integer.MAX_VALUE, 1), -2);
        Due.is("set(0, min, 1)", x.set(0, Integer.MIN_VALUE, 1), -2);
        Due.inputRow("set", x, 0, 7, 2, -9);
        Due.inputRow("set", x, 1, 4, Integer.MIN_VALUE);
        Due.inputRow("set", x, 2);
        Kinds.fill(x, 2, 1, 2, 3, 4, 5, 6, 7, 8);
        Due.is("set(2, 7, 0)", x.set(2, 7, 0), 1);
        Due.is("set(2, 8, 0)", x.set(2, 8, 0), -2);
        Due.inputRow("set", x, 2, 1, 2, 3, 4, 5, 6, 7, 0);
    }

    private static void emptying() {
        VectorLanes x = new VectorLanes();
        Kinds.fill(x, 0, 1, 2, 3);
        Kinds.fill(x, 1, 4, 5, 6, 7, 8, 9, 10, 11);
        Due.is("empty(0)", x.empty(0), 3);
        Due.is("empty(0) again", x.empty(0), 0);
        Due.inputRow("emptied", x, 0);
        Due.is("set in an emptied row", x.set(0, 0, 1), -2);
        Due.inputRow("not emptied", x, 1, 4, 5, 6, 7, 8, 9, 10, 11);
        Due.is("put after empty", x.put(0, 6), 1);
        Due.inputRow("begun anew", x, 0, 6);
        Due.is("empty(1)", x.empty(1), 8);
        Due.is("put after empty", x.put(1, 6), 1);
    }

    private static void wrongInputs() {
        VectorLanes x = new VectorLanes();
        Kinds.fill(x, 0, 1, 2);
        Kinds.fill(x, 1, 3);
        Kinds.fill(x, 2, 4, 5, 6, 7, 8, 9, 10, 11);
        Kinds.tokens(x, 0, Kinds.CONST, 77);
        for (int i : BAD_INPUTS) {
            Due.is("put(" + i + ", 5)", x.put(i, 5), -1);
            Due.is("set(" + i + ", 0, 5)", x.set(i, 0, 5), -1);
            Due.is("set(" + i + ", 99, 5)", x.set(i, 99, 5), -1);
            Due.is("empty(" + i + ")", x.empty(i), -1);
            Due.is("store(" + i + ")", x.store(i), -1);
            Due.is("size(" + i + ")", x.size(i), -1);
            Due.is("input(" + i + ", 0)", x.input(i, 0), 0);
        }
        Due.is("input(0, 8)", x.input(0, 8), 0);
        Due.is("input(1, -8)", x.input(1, -8), 0);
        Due.is("input(0, max)", x.input(0, Integer.MAX_VALUE), 0);
        Due.is("input(2, min)", x.input(2, Integer.MIN_VALUE), 0);
        Due.inputRow("untouched", x, 0, 1, 2);
        Due.inputRow("untouched", x, 1, 3);
        Due.inputRow("untouched", x, 2, 4, 5, 6, 7, 8, 9, 10, 11);
    }
}
