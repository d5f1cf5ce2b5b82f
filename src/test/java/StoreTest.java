/** Promise 5: store. */
final class StoreTest {
    public static void main(String[] args) {
        numbers();
        rows();
        fullRows();
        ownInput();
        refused();
        Due.end("StoreTest");
    }

    private static void numbers() {
        VectorLanes x = new VectorLanes();
        Kinds.fill(x, 0, 1, 2, 3);
        Kinds.fill(x, 1, 4, 5);
        Kinds.tokens(x, 0, Kinds.CONST, -42);
        Due.is("store(0)", x.store(0), 1);
        Due.inputRow("stored", x, 0, -42);
        Due.inputRow("not stored", x, 1, 4, 5);
        Due.is("store(2)", x.store(2), 1);
        Due.inputRow("stored", x, 2, -42);
        Due.number("program stays", x, -42);
        Due.is("put after store", x.put(2, 6), 2);
        Due.inputRow("stored and put", x, 2, -42, 6);
    }

    private static void rows() {
        VectorLanes x = new VectorLanes();
        Kinds.fill(x, 0, 3, 1, 2, 9, 8, 7, 6, 5);
        Kinds.fill(x, 1, 4);
        Kinds.tokens(x, 0, Kinds.INPUT, 0, Kinds.SORT, 0);
        Due.is("store(1)", x.store(1), 8);
        Due.inputRow("stored", x, 1, 1, 2, 3, 5, 6, 7, 8, 9);
        Due.inputRow("read alone", x, 0, 3, 1, 2, 9, 8, 7, 6, 5);
        Due.is("put in a stored row", x.put(1, 1), -2);
        x.empty(0);
        Due.is("store an empty row", x.store(1), 0);
        Due.inputRow("stored", x, 1);
        Due.row("program stays", x);
    }

    /** A full row stored beside others leaves these as they were. */
    private static void fullRows() {
        for (int i = 0; i < 3; i++) {
            VectorLanes x = new VectorLanes();
            for (int k = 0; k < 3; k++) {
                Kinds.fill(x, k, 50 + k, 60 + k);
            }
            Kinds.tokens(x, 0, Kinds.CONST, 8, Kinds.UPTO, 0);
            Due.is("store(" + i + ")", x.store(i), 8);
            for (int k = 0; k < 3; k++) {
                int[] want = k == i ? new int[] {0, 1, 2, 3, 4, 5, 6, 7} : new int[] {50 + k, 60 + k};
                Due.inputRow("stored in " + i, x, k, want);
            }
        }
    }

    private static void ownInput() {
        VectorLanes x = new VectorLanes();
        Kinds.fill(x, 1, 1, 2, 3);
        Kinds.tokens(x, 0, Kinds.INPUT, 1, Kinds.INPUT, 1, Kinds.TURN, 0, Kinds.JOIN, 0, Kinds.SCAN, 0);
        Due.is("store(1)", x.store(1), 6);
        Due.inputRow("stored", x, 1, 1, 3, 6, 9, 11, 12);
        Due.row("worked out anew", x, 1, 4, 10, 19, 30, 42, 54, 65);
        Due.is("store(1)", x.store(1), 8);
        Due.inputRow("stored", x, 1, 1, 4, 10, 19, 30, 42, 54, 65);
        Due.is("token after store", x.token(Kinds.LENGTH, 0), 6);
        Due.is("store(1)", x.store(1), 1);
        Due.inputRow("stored", x, 1, 8);
        Due.is("store(1)", x.store(1), 1);
        Due.inputRow("stored", x, 1, 2);
    }

    private static void refused() {
        VectorLanes x = new VectorLanes();
        Kinds.fill(x, 0, 1, 2);
        Due.is("no tokens: store(0)", x.store(0), -2);
        Due.is("no tokens: store(3)", x.store(3), -1);
        Due.is("no tokens: store(-1)", x.store(-1), -1);
        Kinds.tokens(x, 0, Kinds.CONST, 1, Kinds.CONST, 2);
        Due.is("two expressions: store(0)", x.store(0), -2);
        Due.is("two expressions: store(9)", x.store(9), -1);
        x.clear();
        Kinds.tokens(x, 0, Kinds.INPUT, 0, Kinds.EACH, 0, Kinds.CONST, 4);
        Due.is("open block: store(0)", x.store(0), -2);
        Due.inputRow("untouched", x, 0, 1, 2);
        Kinds.tokens(x, 3, Kinds.END, 0);
        Due.is("whole: store(3)", x.store(3), -1);
        Due.is("whole: store(-1)", x.store(-1), -1);
        Due.inputRow("untouched", x, 0, 1, 2);
        Due.is("whole: store(0)", x.store(0), 2);
        Due.inputRow("stored", x, 0, 4, 4);
    }
}
