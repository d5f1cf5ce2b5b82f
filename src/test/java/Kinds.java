/** The numbers of the token kinds, and ways to put tokens and elements that must be taken. */
final class Kinds {
    static final int CONST = 0;
    static final int INPUT = 1;
    static final int ELEMENT = 2;
    static final int ADD = 3;
    static final int SUB = 4;
    static final int MUL = 5;
    static final int DIV = 6;
    static final int LESS = 7;
    static final int EQUAL = 8;
    static final int PICK = 9;
    static final int LENGTH = 10;
    static final int SUM = 11;
    static final int MOST = 12;
    static final int AT = 13;
    static final int UPTO = 14;
    static final int JOIN = 15;
    static final int TURN = 16;
    static final int SCAN = 17;
    static final int SORT = 18;
    static final int EACH = 19;
    static final int KEEP = 20;
    static final int END = 21;

    private Kinds() {
    }

    /** Puts tokens given as kind, a, kind, a, ... into a program that has `before` tokens. */
    static void tokens(VectorLanes x, int before, int... kindsAndOperands) {
        for (int k = 0; k < kindsAndOperands.length; k += 2) {
            int kind = kindsAndOperands[k];
            int a = kindsAndOperands[k + 1];
            Due.is("token(" + kind + ", " + a + ")", x.token(kind, a), before + k / 2 + 1);
        }
    }

    static void fill(VectorLanes x, int i, int... elements) {
        x.empty(i);
        for (int p = 0; p < elements.length; p++) {
            Due.is("put(" + i + ", " + elements[p] + ")", x.put(i, elements[p]), p + 1);
        }
    }
}
