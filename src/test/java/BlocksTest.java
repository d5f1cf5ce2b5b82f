/** EACH, KEEP and END, one block alone, one after another and one within another. */
final class BlocksTest {
    public static void main(String[] args) {
        each();
        keep();
        nested();
        emptyRows();
        oneAfterAnother();
        stackBelow();
        longest();
        Due.end("BlocksTest");
    }

    private static void each() {
        VectorLanes x = new VectorLanes();
        Kinds.fill(x, 0, 5, -1, 0);
        Kinds.tokens(x, 0, Kinds.INPUT, 0, Kinds.EACH, 0, Kinds.ELEMENT, 0, Kinds.ELEMENT, 0, Kinds.MUL, 0,
            Kinds.CONST, 3, Kinds.SUB, 0, Kinds.END, 0);
        Due.row("squares less 3", x, 22, -2, -3);
        Kinds.fill(x, 0, 1, 2, 3, 4, 5, 6, 7, 8);
        Due.row("eight", x, -2, 1, 6, 13, 22, 33, 46, 61);
        x.clear();
        Kinds.tokens(x, 0, Kinds.INPUT, 0, Kinds.EACH, 0, Kinds.CONST, 0, Kinds.END, 0);
        Due.row("zeros stay", x, 0, 0, 0, 0, 0, 0, 0, 0);
    }

    private static void keep() {
        VectorLanes x = new VectorLanes();
        Kinds.fill(x, 0, 5, -1, 0, 7, -9, 2, 0, 3);
        Kinds.tokens(x, 0, Kinds.INPUT, 0, Kinds.KEEP, 0, Kinds.ELEMENT, 0, Kinds.END, 0);
        Due.row("not 0", x, 5, -1, 7, -9, 2, 3);
        x.clear();
        Kinds.tokens(x, 0, Kinds.INPUT, 0, Kinds.KEEP, 0, Kinds.CONST, 1, Kinds.END, 0);
        Due.row("all", x, 5, -1, 0, 7, -9, 2, 0, 3);
        x.clear();
        Kinds.tokens(x, 0, Kinds.INPUT, 0, Kinds.KEEP, 0, Kinds.CONST, -1, Kinds.END, 0);
        Due.row("all, by a number below 0", x, 5, -1, 0, 7, -9, 2, 0, 3);
        x.clear();
        Kinds.tokens(x, 0, Kinds.INPUT, 0, Kinds.KEEP, 0, Kinds.CONST, 0, Kinds.END, 0);
        Due.row("none", x);
        x.clear();
        Kinds.tokens(x, 0, Kinds.INPUT, 0, Kinds.KEEP, 0, Kinds.ELEMENT, 0, Kinds.CONST, 0, Kinds.LESS, 0,
            Kinds.END, 0);
        Due.row("below 0", x, -1, -9);
    }

    private static void nested() {
        VectorLanes x = new VectorLanes();
        Kinds.fill(x, 0, 1, 2, 3);
        Kinds.fill(x, 1, 10, 20);
        Kinds.tokens(x, 0, Kinds.INPUT, 0, Kinds.EACH, 0, Kinds.INPUT, 1, Kinds.EACH, 0, Kinds.ELEMENT, 1,
            Kinds.ELEMENT, 0, Kinds.SUB, 0, Kinds.END, 0, Kinds.TURN, 0, Kinds.CONST, 0, Kinds.AT, 0,
            Kinds.ELEMENT, 0, Kinds.MUL, 0, Kinds.END, 0);
        Due.row("EACH in EACH", x, 19, 36, 51);
        x.clear();
        Kinds.fill(x, 2, 4, 1, 4, 3, 1);
        Kinds.tokens(x, 0, Kinds.INPUT, 2, Kinds.KEEP, 0, Kinds.INPUT, 2, Kinds.KEEP, 0, Kinds.ELEMENT, 0,
            Kinds.ELEMENT, 1, Kinds.EQUAL, 0, Kinds.END, 0, Kinds.LENGTH, 0, Kinds.CONST, 1, Kinds.EQUAL, 0,
            Kinds.END, 0);
        Due.row("KEEP in KEEP", x, 3);
        x.clear();
        Kinds.tokens(x, 0, Kinds.INPUT, 2, Kinds.EACH, 0, Kinds.INPUT, 2, Kinds.KEEP, 0, Kinds.ELEMENT, 1,
            Kinds.ELEMENT, 0, Kinds.LESS, 0, Kinds.END, 0, Kinds.LENGTH, 0, Kinds.END, 0);
        Due.row("KEEP in EACH", x, 3, 0, 3, 2, 0);
        x.clear();
        Kinds.tokens(x, 0, Kinds.INPUT, 2, Kinds.KEEP, 0, Kinds.ELEMENT, 0, Kinds.UPTO, 0, Kinds.EACH, 0,
            Kinds.ELEMENT, 1, Kinds.ELEMENT, 0, Kinds.MUL, 0, Kinds.END, 0, Kinds.SUM, 0, Kinds.END, 0);
        Due.row("EACH in KEEP", x, 4, 4, 3);
    }

    private static void emptyRows() {
        for (int kind = Kinds.EACH; kind <= Kinds.KEEP; kind++) {
            VectorLanes x = new VectorLanes();
            Kinds.fill(x, 1, 2, 0, 3);
            Kinds.tokens(x, 0, Kinds.INPUT, 0, kind, 0, Kinds.ELEMENT, 0, Kinds.END, 0);
            Due.row("over an empty row", x);
            Kinds.tokens(x, 4, Kinds.LENGTH, 0, Kinds.CONST, 6, Kinds.ADD, 0);
            Due.number("what follows is worked out", x, 6);
            x.clear();
            Kinds.tokens(x, 0, Kinds.INPUT, 0, kind, 0, Kinds.INPUT, 1, kind, 0, Kinds.ELEMENT, 1, Kinds.END, 0,
                Kinds.SUM, 0, Kinds.END, 0, Kinds.INPUT, 1, Kinds.JOIN, 0);
            Due.row("a block within one over an empty row", x, 2, 0, 3);
            x.clear();
            Kinds.tokens(x, 0, Kinds.INPUT, 1, Kinds.EACH, 0, Kinds.ELEMENT, 0, Kinds.UPTO, 0, kind, 0,
                Kinds.CONST, 1, Kinds.END, 0, Kinds.LENGTH, 0, Kinds.END, 0);
            Due.row("inner rows of which one is empty", x, 2, 0, 3);
        }
    }

    private static void oneAfterAnother() {
        VectorLanes x = new VectorLanes();
        Kinds.fill(x, 0, 1, 2, 3, 4);
        Kinds.tokens(x, 0, Kinds.INPUT, 0, Kinds.EACH, 0, Kinds.ELEMENT, 0, Kinds.CONST, 2, Kinds.SUB, 0, Kinds.END, 0,
            Kinds.KEEP, 0, Kinds.ELEMENT, 0, Kinds.END, 0, Kinds.EACH, 0, Kinds.ELEMENT, 0, Kinds.CONST, 10,
            Kinds.MUL, 0, Kinds.END, 0);
        Due.row("three blocks", x, -10, 10, 20);
        x.clear();
        Kinds.tokens(x, 0, Kinds.INPUT, 0, Kinds.EACH, 0,
            Kinds.ELEMENT, 0, Kinds.UPTO, 0, Kinds.EACH, 0, Kinds.ELEMENT, 1, Kinds.ELEMENT, 0, Kinds.ADD, 0, Kinds.END, 0,
            Kinds.KEEP, 0, Kinds.ELEMENT, 1, Kinds.CONST, 5, Kinds.LESS, 0, Kinds.END, 0, Kinds.SUM, 0,
            Kinds.INPUT, 0, Kinds.KEEP, 0, Kinds.ELEMENT, 1, Kinds.ELEMENT, 0, Kinds.EQUAL, 0, Kinds.END, 0,
            Kinds.SUM, 0, Kinds.SUB, 0, Kinds.END, 0);
        Due.row("three inner blocks", x, 0, 3, 4, 0);
    }

    private static void stackBelow() {
        VectorLanes x = new VectorLanes();
        Kinds.fill(x, 0, 3, 1, 2);
        Kinds.fill(x, 1, 10, 20);
        Kinds.tokens(x, 0, Kinds.INPUT, 1, Kinds.CONST, 1, Kinds.INPUT, 0, Kinds.EACH, 0, Kinds.CONST, 50,
            Kinds.INPUT, 1, Kinds.EACH, 0, Kinds.ELEMENT, 1, Kinds.ELEMENT, 0, Kinds.ADD, 0, Kinds.END, 0,
            Kinds.SUM, 0, Kinds.SUB, 0, Kinds.END, 0, Kinds.MOST, 0, Kinds.ADD, 0, Kinds.UPTO, 0, Kinds.JOIN, 0);
        Due.row("what stood below", x, 10, 20, 0, 1, 2, 3, 4, 5);
    }

    /** 40 tokens of which most stand in an inner block over full rows: the most work that there can be. */
    private static void longest() {
        VectorLanes x = new VectorLanes();
        Kinds.fill(x, 0, 1, 2, 3, 4, 5, 6, 7, 8);
        Kinds.tokens(x, 0, Kinds.INPUT, 0, Kinds.EACH, 0, Kinds.INPUT, 0, Kinds.EACH, 0, Kinds.ELEMENT, 1);
        for (int t = 5; t < 37; t += 2) {
            Kinds.tokens(x, t, Kinds.ELEMENT, 0, Kinds.ADD, 0);
        }
        Kinds.tokens(x, 37, Kinds.END, 0, Kinds.SUM, 0, Kinds.END, 0);
        int[] want = new int[8];
        for (int p = 0; p < 8; p++) {
            want[p] = 36 + 8 * 16 * (p + 1);
        }
        Due.row("longest", x, want);
        Due.is("41st token", x.token(Kinds.SUM, 0), -2);
    }
}
