/** What each kind of token works out (the terms that promises 5 and 11 to 14 rest on). */
final class MeaningTest {
    private static final int MIN = Integer.MIN_VALUE;
    private static final int MAX = Integer.MAX_VALUE;

    public static void main(String[] args) {
        pairsOfNumbers();
        picks();
        measures();
        places();
        countedRows();
        joins();
        turnsScansSorts();
        valuesBelowStay();
        Due.end("MeaningTest");
    }

    /** The numbers come from input 0, since CONST reaches no further than 99. */
    private static int pair(int kind, int n, int m) {
        VectorLanes x = new VectorLanes();
        Kinds.fill(x, 0, n, m);
        Kinds.tokens(x, 0, Kinds.INPUT, 0, Kinds.CONST, 0, Kinds.AT, 0, Kinds.INPUT, 0, Kinds.CONST, 1,
            Kinds.AT, 0, kind, 0);
        Due.is("sort()", x.sort(), 1);
        return x.result(0);
    }

    private static void pairsOfNumbers() {
        int[] some = {MIN, MIN + 1, -65536, -99, -7, -3, -1, 0, 1, 2, 3, 7, 99, 46341, 65536, MAX - 1, MAX};
        for (int n : some) {
            for (int m : some) {
                String of = " of " + n + " and " + m;
                Due.is("ADD" + of, pair(Kinds.ADD, n, m), (int) ((long) n + m));
                Due.is("SUB" + of, pair(Kinds.SUB, n, m), (int) ((long) n - m));
                Due.is("MUL" + of, pair(Kinds.MUL, n, m), (int) ((long) n * m));
                Due.is("DIV" + of, pair(Kinds.DIV, n, m), m == 0 ? 0 : (int) ((long) n / m));
                Due.is("LESS" + of, pair(Kinds.LESS, n, m), (long) n - m < 0 ? 1 : 0);
                Due.is("EQUAL" + of, pair(Kinds.EQUAL, n, m), (long) n - m == 0 ? 1 : 0);
            }
        }
        Due.is("7 / 2", pair(Kinds.DIV, 7, 2), 3);
        Due.is("-7 / 2", pair(Kinds.DIV, -7, 2), -3);
        Due.is("7 / -2", pair(Kinds.DIV, 7, -2), -3);
        Due.is("-7 / -2", pair(Kinds.DIV, -7, -2), 3);
        Due.is("min / -1", pair(Kinds.DIV, MIN, -1), MIN);
        Due.is("5 / 0", pair(Kinds.DIV, 5, 0), 0);
        Due.is("0 / 0", pair(Kinds.DIV, 0, 0), 0);
        Due.is("max + 1", pair(Kinds.ADD, MAX, 1), MIN);
        Due.is("min - 1", pair(Kinds.SUB, MIN, 1), MAX);
    }

    private static void picks() {
        for (int n : new int[] {0, 1, -1, 2, 99, -99}) {
            VectorLanes x = new VectorLanes();
            Kinds.tokens(x, 0, Kinds.CONST, n, Kinds.CONST, 11, Kinds.CONST, 22, Kinds.PICK, 0);
            Due.number("PICK " + n + " 11 22", x, n != 0 ? 11 : 22);
        }
        VectorLanes x = new VectorLanes();
        Kinds.tokens(x, 0, Kinds.CONST, 5, Kinds.CONST, 0, Kinds.CONST, 7, Kinds.PICK, 0);
        Due.number("PICK 5 0 7", x, 0);
    }

    private static VectorLanes over(int kind, int... row) {
        VectorLanes x = new VectorLanes();
        Kinds.fill(x, 0, row);
        Kinds.tokens(x, 0, Kinds.INPUT, 0, kind, 0);
        return x;
    }

    private static void measures() {
        Due.number("LENGTH of none", over(Kinds.LENGTH), 0);
        Due.number("LENGTH of one", over(Kinds.LENGTH, 7), 1);
        Due.number("LENGTH of 8", over(Kinds.LENGTH, 7, 6, 5, 4, 3, 2, 1, 0), 8);
        Due.number("SUM of none", over(Kinds.SUM), 0);
        Due.number("SUM of one", over(Kinds.SUM, -7), -7);
        Due.number("SUM of 8", over(Kinds.SUM, 1, 2, 4, 8, 16, 32, 64, 128), 255);
        Due.number("SUM wraps", over(Kinds.SUM, MAX, 1, 1), MIN + 1);
        Due.number("MOST of none", over(Kinds.MOST), 0);
        Due.number("MOST of one", over(Kinds.MOST, -7), -7);
        Due.number("MOST below 0", over(Kinds.MOST, -7, -3, -5), -3);
        Due.number("MOST first", over(Kinds.MOST, 9, 3, 5), 9);
        Due.number("MOST last of 8", over(Kinds.MOST, 1, 2, 3, 4, 5, 6, 7, 8), 8);
        Due.number("MOST of the widest", over(Kinds.MOST, MIN, MAX, MIN), MAX);
        Due.number("MOST of the least", over(Kinds.MOST, MIN, MIN), MIN);
    }

    private static void places() {
        int[] row = {5, -6, 7};
        for (int place : new int[] {MIN, -99, -8, -1, 0, 1, 2, 3, 7, 8, 16, 99, MAX}) {
            VectorLanes x = new VectorLanes();
            // A longer row asked for before must leave nothing behind beyond the end of a shorter one.
            Kinds.fill(x, 0, 1, 1, 1, 1, 1, 1, 1, 1);
            Kinds.tokens(x, 0, Kinds.INPUT, 0);
            Due.row("longer row", x, 1, 1, 1, 1, 1, 1, 1, 1);
            x.clear();
            Kinds.fill(x, 0, row);
            Kinds.fill(x, 1, place);
            Kinds.tokens(x, 0, Kinds.INPUT, 0, Kinds.INPUT, 1, Kinds.SUM, 0, Kinds.AT, 0);
            Due.number("AT " + place, x, place >= 0 && place < 3 ? row[place] : 0);
        }
        VectorLanes x = new VectorLanes();
        Kinds.tokens(x, 0, Kinds.INPUT, 0, Kinds.CONST, 0, Kinds.AT, 0);
        Due.number("AT 0 of an empty row", x, 0);
        Kinds.fill(x, 0, 1, 2, 3, 4, 5, 6, 7, 8);
        x.clear();
        Kinds.tokens(x, 0, Kinds.INPUT, 0, Kinds.CONST, 7, Kinds.AT, 0);
        Due.number("AT 7 of 8", x, 8);
        x.clear();
        Kinds.tokens(x, 0, Kinds.INPUT, 0, Kinds.CONST, 8, Kinds.AT, 0);
        Due.number("AT 8 of 8", x, 0);
    }

    private static void countedRows() {
        for (int n : new int[] {MIN, -99, -1, 0, 1, 2, 7, 8, 9, 99, MAX}) {
            VectorLanes x = over(Kinds.SUM, n);
            Kinds.tokens(x, 2, Kinds.UPTO, 0);
            int[] want = new int[n < 0 ? 0 : Math.min(n, 8)];
            for (int p = 0; p < want.length; p++) {
                want[p] = p;
            }
            Due.row("UPTO " + n, x, want);
        }
    }

    private static void joins() {
        int[] one = {1, 2, 3, 4, 5, 6, 7, 8};
        int[] other = {-1, -2, -3, -4, -5, -6, -7, -8};
        for (int r = 0; r <= 8; r++) {
            for (int t = 0; t <= 8; t++) {
                VectorLanes x = new VectorLanes();
                Kinds.fill(x, 0, java.util.Arrays.copyOf(one, r));
                Kinds.fill(x, 1, java.util.Arrays.copyOf(other, t));
                Kinds.tokens(x, 0, Kinds.INPUT, 0, Kinds.INPUT, 1, Kinds.JOIN, 0);
                int[] want = new int[Math.min(8, r + t)];
                for (int p = 0; p < want.length; p++) {
                    want[p] = p < r ? one[p] : other[p - r];
                }
                Due.row("JOIN of " + r + " and " + t, x, want);
            }
        }
    }

    private static void turnsScansSorts() {
        Due.row("TURN of none", over(Kinds.TURN));
        Due.row("TURN of one", over(Kinds.TURN, 4), 4);
        Due.row("TURN of two", over(Kinds.TURN, 4, 5), 5, 4);
        Due.row("TURN of three", over(Kinds.TURN, 4, 5, 6), 6, 5, 4);
        Due.row("TURN of 8", over(Kinds.TURN, 1, 2, 3, 4, 5, 6, 7, 8), 8, 7, 6, 5, 4, 3, 2, 1);
        Due.row("SCAN of none", over(Kinds.SCAN));
        Due.row("SCAN of one", over(Kinds.SCAN, 4), 4);
        Due.row("SCAN of 8", over(Kinds.SCAN, 1, 2, 3, 4, 5, 6, 7, -8), 1, 3, 6, 10, 15, 21, 28, 20);
        Due.row("SCAN wraps", over(Kinds.SCAN, MAX, 1, MIN), MAX, MIN, 0);
        Due.row("SORT of none", over(Kinds.SORT));
        Due.row("SORT of one", over(Kinds.SORT, 4), 4);
        Due.row("SORT of equals", over(Kinds.SORT, 4, 4, 1, 4, 1), 1, 1, 4, 4, 4);
        Due.row("SORT of 8 falling", over(Kinds.SORT, 8, 7, 6, 5, 4, 3, 2, 1), 1, 2, 3, 4, 5, 6, 7, 8);
        Due.row("SORT of 8 rising", over(Kinds.SORT, 1, 2, 3, 4, 5, 6, 7, 8), 1, 2, 3, 4, 5, 6, 7, 8);
        Due.row("SORT of the widest", over(Kinds.SORT, MAX, 0, MIN, -1, 1), MIN, -1, 0, 1, MAX);
    }

    /** Rows side by side on a full stack don't run into each other. */
    private static void valuesBelowStay() {
        VectorLanes x = new VectorLanes();
        Kinds.fill(x, 0, 3, 1, 2);
        Kinds.fill(x, 1, 8, 7, 6, 5, 4, 3, 2, 1);
        Kinds.fill(x, 2, 40);
        Kinds.tokens(x, 0, Kinds.INPUT, 0, Kinds.INPUT, 2, Kinds.INPUT, 0, Kinds.INPUT, 2, Kinds.INPUT, 0,
            Kinds.INPUT, 1, Kinds.SORT, 0, Kinds.TURN, 0, Kinds.SCAN, 0, Kinds.MOST, 0, Kinds.UPTO, 0,
            Kinds.LENGTH, 0, Kinds.UPTO, 0, Kinds.SUM, 0, Kinds.AT, 0, Kinds.UPTO, 0, Kinds.JOIN, 0,
            Kinds.JOIN, 0, Kinds.TURN, 0, Kinds.JOIN, 0, Kinds.JOIN, 0);
        Due.row("six rows", x, 3, 1, 2, 40, 40, 2, 1, 3);
    }
}
