import java.util.Arrays;

/** The lines of the kinds of tokens under "Terms", but for those of the blocks. */
final class EdgesOfKindsTest {
    private static final int MIN = Integer.MIN_VALUE;
    private static final int MAX = Integer.MAX_VALUE;
    private static final int[] NONE = {};
    private static final int[] EIGHT = {4, -7, 0, 4, 9, -7, 1, 2};
    private static final String TWO_NUMBERS = "INPUT 0, CONST 0, AT, INPUT 0, CONST 1, AT, ";

    public static void main(String[] args) {
        Due.each(
            EdgesOfKindsTest::constants, EdgesOfKindsTest::inputs, EdgesOfKindsTest::additions,
            EdgesOfKindsTest::differencesAndProducts, EdgesOfKindsTest::divisionTowardsZero,
            EdgesOfKindsTest::divisionByZero, EdgesOfKindsTest::less, EdgesOfKindsTest::equal,
            EdgesOfKindsTest::pick, EdgesOfKindsTest::lengths, EdgesOfKindsTest::sums, EdgesOfKindsTest::sumsOfNone,
            EdgesOfKindsTest::most, EdgesOfKindsTest::mostOfNone, EdgesOfKindsTest::at,
            EdgesOfKindsTest::atNoSuchPlace, EdgesOfKindsTest::upTo, EdgesOfKindsTest::upToBelowZero,
            EdgesOfKindsTest::upToAboveEight, EdgesOfKindsTest::joins, EdgesOfKindsTest::joinsOfMoreThanEight,
            EdgesOfKindsTest::turns, EdgesOfKindsTest::scans, EdgesOfKindsTest::sorts);
        Due.end("EdgesOfKindsTest");
    }

    private static void constants() {
        Due.sentence("CONST a: takes nothing; the number a (-99 to 99)");
        for (int a = -99; a <= 99; a++) {
            VectorLanes x = new VectorLanes();
            Due.is("CONST " + a, x.token(Kinds.CONST, a), 1);
            Due.number("CONST " + a, x, a);
        }
        Due.is("CONST -100", new VectorLanes().token(Kinds.CONST, -100), -1);
        Due.is("CONST 100", new VectorLanes().token(Kinds.CONST, 100), -1);
    }

    private static void inputs() {
        Due.sentence("INPUT a: takes nothing; the row of input a (0 to 2)");
        int[][] rows = {EIGHT, NONE, {5}};
        for (int a = 0; a < 3; a++) {
            Due.row("INPUT " + a, Program.of("INPUT " + a, rows), rows[a]);
        }
        Due.is("INPUT -1", new VectorLanes().token(Kinds.INPUT, -1), -1);
        Due.is("INPUT 3", new VectorLanes().token(Kinds.INPUT, 3), -1);
    }

    private static void ofTwo(String kind, int n, int m, int want) {
        Due.number(n + " " + m + " " + kind, Program.of(TWO_NUMBERS + kind, Program.row(n, m)), want);
    }

    private static void additions() {
        Due.sentence("ADD n m: the sum");
        ofTwo("ADD", 2, 3, 5);
        ofTwo("ADD", 2, -3, -1);
        ofTwo("ADD", MIN, MAX, -1);
        ofTwo("ADD", MAX, 0, MAX);
        ofTwo("ADD", MAX, 1, MIN);
    }

    private static void differencesAndProducts() {
        Due.sentence("SUB n m, MUL n m: the difference n - m, the product");
        ofTwo("SUB", 2, 3, -1);
        ofTwo("SUB", 3, 2, 1);
        ofTwo("SUB", MIN, 0, MIN);
        ofTwo("SUB", MIN, 1, MAX);
        ofTwo("MUL", 7, -6, -42);
        ofTwo("MUL", MIN, 1, MIN);
        ofTwo("MUL", MIN, 0, 0);
        ofTwo("MUL", MAX, 2, -2);
    }

    private static void divisionTowardsZero() {
        Due.sentence("DIV n m: n divided by m, rounded towards 0 as by /");
        ofTwo("DIV", 7, 2, 3);
        ofTwo("DIV", -7, 2, -3);
        ofTwo("DIV", 7, -2, -3);
        ofTwo("DIV", -7, -2, 3);
        ofTwo("DIV", 8, 2, 4);
        ofTwo("DIV", -8, 2, -4);
        ofTwo("DIV", 1, 2, 0);
        ofTwo("DIV", -1, 2, 0);
        ofTwo("DIV", 0, -5, 0);
        ofTwo("DIV", MIN, 1, MIN);
        ofTwo("DIV", MIN, -1, MIN);
        ofTwo("DIV", MIN + 1, -1, MAX);
        ofTwo("DIV", MAX, -1, MIN + 1);
        ofTwo("DIV", MIN, 2, -1073741824);
        ofTwo("DIV", MIN, MIN, 1);
        ofTwo("DIV", MAX, MIN, 0);
        ofTwo("DIV", MIN, MAX, -1);
    }

    private static void divisionByZero() {
        Due.sentence("DIV: 0 if m is 0");
        for (int n : new int[] {MIN, -1, 0, 1, 5, MAX}) {
            ofTwo("DIV", n, 0, 0);
        }
        VectorLanes x = Program.of("INPUT 0, EACH, CONST 6, ELEMENT 0, DIV, END", Program.row(0, 1, -1, 0, 4));
        Due.row("within a block", x, 0, 6, -6, 0, 1);
    }

    private static void less() {
        Due.sentence("LESS n m: 1 if n is less than m, else 0");
        ofTwo("LESS", 2, 3, 1);
        ofTwo("LESS", 3, 3, 0);
        ofTwo("LESS", 4, 3, 0);
        ofTwo("LESS", -1, 0, 1);
        ofTwo("LESS", 0, -1, 0);
        ofTwo("LESS", MIN, MAX, 1);
        ofTwo("LESS", MAX, MIN, 0);
        ofTwo("LESS", MIN, 1, 1);
        ofTwo("LESS", MIN, MIN, 0);
        ofTwo("LESS", MAX - 1, MAX, 1);
    }

    private static void equal() {
        Due.sentence("EQUAL n m: 1 if they are the same, else 0");
        ofTwo("EQUAL", 0, 0, 1);
        ofTwo("EQUAL", 3, 3, 1);
        ofTwo("EQUAL", 3, 4, 0);
        ofTwo("EQUAL", 4, 3, 0);
        ofTwo("EQUAL", 3, -3, 0);
        ofTwo("EQUAL", MIN, MIN, 1);
        ofTwo("EQUAL", MAX, MIN, 0);
        ofTwo("EQUAL", 200, 200, 1);
        ofTwo("EQUAL", 0, 256, 0);
        ofTwo("EQUAL", 65536, 0, 0);
        ofTwo("EQUAL", 0, MIN, 0);
    }

    private static void pick() {
        Due.sentence("PICK n m k: m if n is not 0, else k");
        for (int n : new int[] {MIN, -1, 1, 2, 256, 65536, MAX}) {
            Due.number(n + " is not 0", Program.of("INPUT 0, SUM, CONST 5, CONST 6, PICK", Program.row(n)), 5);
        }
        Due.number("0", Program.of("CONST 0, CONST 5, CONST 6, PICK"), 6);
        Due.number("m is 0", Program.of("CONST 1, CONST 0, CONST 6, PICK"), 0);
        Due.number("k is 0", Program.of("CONST 0, CONST 5, CONST 0, PICK"), 0);
        Due.number("what stands below stays", Program.of("CONST 9, CONST 0, CONST 5, CONST 6, PICK, SUB"), 3);
    }

    private static void ofRow(String kind, int want, int... row) {
        Due.number(kind + " of " + Arrays.toString(row), Program.of("INPUT 0, " + kind, row), want);
    }

    private static void lengths() {
        Due.sentence("LENGTH r: how many elements r has");
        ofRow("LENGTH", 0);
        ofRow("LENGTH", 1, 0);
        ofRow("LENGTH", 2, 0, 9);
        ofRow("LENGTH", 7, 7, 6, 5, 4, 3, 2, 1);
        ofRow("LENGTH", 8, EIGHT);
    }

    private static void sums() {
        Due.sentence("SUM r: their sum");
        ofRow("SUM", -5, -5);
        ofRow("SUM", 6, EIGHT);
        ofRow("SUM", 0, 3, -3);
        ofRow("SUM", MIN, MAX, 1);
        ofRow("SUM", 128, 1, 0, 0, 0, 0, 0, 0, 127);
    }

    /** A full row and then none in the same place, beside another one: nothing of the full row may be left. */
    private static void emptied(String kind, int ofFull) {
        VectorLanes x = Program.of("INPUT 0, " + kind, EIGHT);
        Due.number(kind + " while full", x, ofFull);
        Due.is("empty(0)", x.empty(0), 8);
        Due.number(kind + " once emptied", x, 0);
        VectorLanes y = Program.of("INPUT 0, LENGTH, INPUT 1, " + kind + ", ADD", EIGHT, NONE);
        Due.number("8 and " + kind + " of none", y, 8);
    }

    private static void sumsOfNone() {
        Due.sentence("SUM r: 0 if there are none");
        ofRow("SUM", 0);
        Due.number("none kept of full rows", Program.of("INPUT 0, KEEP, CONST 0, END, SUM", EIGHT), 0);
        emptied("SUM", 6);
    }

    private static void most() {
        Due.sentence("MOST r: the greatest of them");
        ofRow("MOST", -5, -5);
        ofRow("MOST", 9, EIGHT);
        ofRow("MOST", 8, 8, 7, 6, 5, 4, 3, 2, 1);
        ofRow("MOST", 8, 1, 2, 3, 4, 5, 6, 7, 8);
        ofRow("MOST", -1, -3, -1, -2);
        ofRow("MOST", MIN, MIN);
        ofRow("MOST", MIN + 1, MIN, MIN + 1, MIN);
        ofRow("MOST", MAX, MIN, MAX, -1);
        ofRow("MOST", 3, 3, 3);
    }

    private static void mostOfNone() {
        Due.sentence("MOST r: 0 if there are none");
        ofRow("MOST", 0);
        Due.number("none kept of full rows", Program.of("INPUT 0, KEEP, CONST 0, END, MOST", EIGHT), 0);
        emptied("MOST", 9);
    }

    private static void place(int place, int want, int... row) {
        VectorLanes x = Program.of("INPUT 0, INPUT 1, SUM, AT", row, Program.row(place));
        Due.number("place " + place + " of " + Arrays.toString(row), x, want);
    }

    private static void at() {
        Due.sentence("AT r n: the element of r at place n");
        for (int p = 0; p < 8; p++) {
            place(p, EIGHT[p], EIGHT);
        }
        place(0, 5, 5);
        place(2, MIN, 1, 2, MIN);
    }

    private static void atNoSuchPlace() {
        Due.sentence("AT r n: 0 if there is no such place");
        for (int p : new int[] {MIN, MIN + 1, -99, -8, -1, 8, 9, 16, 99, MAX}) {
            place(p, 0, EIGHT);
        }
        for (int p : new int[] {MIN, -1, 3, 4, 7, 8, MAX}) {
            place(p, 0, 5, 6, 7);
        }
        for (int p : new int[] {MIN, -1, 0, 1, 7, 8, MAX}) {
            place(p, 0);
        }
        // Longer rows stood where the shorter ones stand then.
        VectorLanes x = Program.of("INPUT 0, LENGTH, CONST 5, SUB, UPTO, CONST 3, AT", EIGHT);
        Due.number("place 3 of 0, 1, 2", x, 0);
        VectorLanes y = Program.of("INPUT 0, KEEP, ELEMENT 0, CONST 4, EQUAL, END, CONST 2, AT", EIGHT);
        Due.number("place 2 of 4, 4", y, 0);
        VectorLanes z = Program.of("INPUT 0, CONST 1, AT", EIGHT);
        Due.is("set", z.set(0, 1, 33), 1);
        Due.number("a set element", z, 33);
        Due.is("empty", z.empty(0), 8);
        Due.number("an emptied row", z, 0);
        Due.is("put", z.put(0, 44), 1);
        Due.number("a row of one", z, 0);
    }

    private static void counted(int n, int... want) {
        Due.row("UPTO " + n, Program.of("INPUT 0, SUM, UPTO", Program.row(n)), want);
    }

    private static void upTo() {
        Due.sentence("UPTO n: the row 0, 1, .., n - 1");
        counted(0);
        counted(1, 0);
        counted(2, 0, 1);
        counted(7, 0, 1, 2, 3, 4, 5, 6);
        counted(8, 0, 1, 2, 3, 4, 5, 6, 7);
    }

    private static void upToBelowZero() {
        Due.sentence("UPTO n: n below 0 counts as 0");
        for (int n : new int[] {-1, -2, -8, -99, MIN + 1, MIN}) {
            counted(n);
        }
    }

    private static void upToAboveEight() {
        Due.sentence("UPTO n: above 8 as 8");
        for (int n : new int[] {9, 10, 16, 99, 256, MAX - 1, MAX}) {
            counted(n, 0, 1, 2, 3, 4, 5, 6, 7);
        }
    }

    private static void joined(int r, int t) {
        int[] one = {1, 2, 3, 4, 5, 6, 7, 8};
        int[] other = {-1, -2, -3, -4, -5, -6, -7, -8};
        int[] want = new int[r + t < 8 ? r + t : 8];
        for (int p = 0; p < want.length; p++) {
            want[p] = p < r ? one[p] : other[p - r];
        }
        VectorLanes x = Program.of("INPUT 0, INPUT 1, JOIN", Arrays.copyOf(one, r), Arrays.copyOf(other, t));
        Due.row("JOIN of " + r + " and " + t + " elements", x, want);
    }

    private static void joins() {
        Due.sentence("JOIN r t: the elements of r, then those of t");
        for (int r = 0; r <= 8; r++) {
            for (int t = 0; r + t <= 8; t++) {
                joined(r, t);
            }
        }
    }

    private static void joinsOfMoreThanEight() {
        Due.sentence("JOIN r t: the first 8 of them all");
        for (int r = 1; r <= 8; r++) {
            for (int t = 9 - r; t <= 8; t++) {
                joined(r, t);
            }
        }
        int[] five = {1, 2, 3, 4, 5};
        VectorLanes x = Program.of("INPUT 0, INPUT 0, INPUT 0, JOIN, JOIN", five);
        Due.row("joined twice", x, 1, 2, 3, 4, 5, 1, 2, 3);
        VectorLanes y = Program.of("CONST 3, INPUT 0, INPUT 0, JOIN, LENGTH, SUB", five);
        Due.number("beside what stands below", y, -5);
        VectorLanes z = Program.of("INPUT 0, INPUT 0, JOIN, INPUT 1, SUM, AT", five, Program.row(8));
        Due.number("no ninth place", z, 0);
    }

    private static void turns() {
        Due.sentence("TURN r: the elements of r in the opposite order");
        Due.row("of none", Program.of("INPUT 0, TURN", NONE));
        Due.row("of one", Program.of("INPUT 0, TURN", Program.row(5)), 5);
        Due.row("of two", Program.of("INPUT 0, TURN", Program.row(5, 6)), 6, 5);
        Due.row("of three", Program.of("INPUT 0, TURN", Program.row(5, 6, 7)), 7, 6, 5);
        Due.row("of seven", Program.of("INPUT 0, TURN", Program.row(1, 2, 3, 4, 5, 6, 7)), 7, 6, 5, 4, 3, 2, 1);
        Due.row("of eight", Program.of("INPUT 0, TURN", EIGHT), 2, 1, -7, 9, 4, 0, -7, 4);
    }

    private static void scans() {
        Due.sentence("SCAN r: the sum of the elements of r up to this place, it included");
        Due.row("of none", Program.of("INPUT 0, SCAN", NONE));
        Due.row("of one", Program.of("INPUT 0, SCAN", Program.row(5)), 5);
        Due.row("of two", Program.of("INPUT 0, SCAN", Program.row(5, 6)), 5, 11);
        Due.row("of eight", Program.of("INPUT 0, SCAN", EIGHT), 4, -3, -3, 1, 10, 3, 4, 6);
        Due.row("beyond MAX", Program.of("INPUT 0, SCAN", Program.row(MAX, 1, 1)), MAX, MIN, MIN + 1);
    }

    private static void sorts() {
        Due.sentence("SORT r: the elements of r in rising order");
        Due.row("of none", Program.of("INPUT 0, SORT", NONE));
        Due.row("of one", Program.of("INPUT 0, SORT", Program.row(5)), 5);
        Due.row("of two", Program.of("INPUT 0, SORT", Program.row(6, 5)), 5, 6);
        Due.row("of eight", Program.of("INPUT 0, SORT", EIGHT), -7, -7, 0, 1, 2, 4, 4, 9);
        Due.row("falling", Program.of("INPUT 0, SORT", Program.row(8, 7, 6, 5, 4, 3, 2, 1)), 1, 2, 3, 4, 5, 6, 7, 8);
        Due.row("the widest", Program.of("INPUT 0, SORT", Program.row(MAX, 1, MIN, -1, 0)), MIN, -1, 0, 1, MAX);
        Due.row("all the same", Program.of("INPUT 0, SORT", Program.row(3, 3, 3)), 3, 3, 3);
    }
}
