/** Promises 7, 8 and 11 to 14, sentence by sentence. */
final class EdgesOfResultsTest {
    private static final int MIN = Integer.MIN_VALUE;
    private static final int MAX = Integer.MAX_VALUE;
    private static final int[] NONE = {};
    private static final int[] THREE = {5, 6, 7};
    private static final int[] EIGHT = {4, -7, 0, 4, 9, -7, 1, 2};
    private static final int[] NO_PLACES = {MIN, -9, -8, -1, 8, 9, 16, 47, 48, MAX};
    private static final String[] NOT_WHOLE = {
        "", "CONST 1, CONST 2", "INPUT 1, INPUT 2", "INPUT 1, CONST 1", "INPUT 2, EACH", "INPUT 2, KEEP, ELEMENT 0",
        "INPUT 2, EACH, INPUT 1", "CONST 4, INPUT 2, EACH", "INPUT 2, EACH, INPUT 1, KEEP, ELEMENT 1",
        "INPUT 2, EACH, INPUT 1, KEEP, ELEMENT 1, END", "CONST 4, INPUT 2, EACH, ELEMENT 0, END",
    };

    public static void main(String[] args) {
        Due.each(
            EdgesOfResultsTest::dropOfNone, EdgesOfResultsTest::dropOfEachToken, EdgesOfResultsTest::dropAnswers,
            EdgesOfResultsTest::clearTakesAll, EdgesOfResultsTest::clearAnswers, EdgesOfResultsTest::sortOfResults,
            EdgesOfResultsTest::sortOfNotWhole, EdgesOfResultsTest::lengthOfRows,
            EdgesOfResultsTest::lengthOfNumbers, EdgesOfResultsTest::lengthOfNotWhole,
            EdgesOfResultsTest::resultAtPlaces, EdgesOfResultsTest::resultAtNoPlace,
            EdgesOfResultsTest::resultOfNotWhole, EdgesOfResultsTest::mixtureOfResults,
            EdgesOfResultsTest::mixtureWraps, EdgesOfResultsTest::mixtureOfNotWhole);
        Due.end("EdgesOfResultsTest");
    }

    private static VectorLanes withInputs(String program) {
        return Program.of(program, NONE, THREE, EIGHT);
    }

    /** A program that has been whole and is so no longer: nothing of its former result may show. */
    private static VectorLanes noLongerWhole(String program) {
        VectorLanes x = withInputs("INPUT 2");
        Due.is("mixture() while whole", x.mixture(), 32);
        Due.is("clear()", x.clear(), 1);
        Program.put(x, program);
        return x;
    }

    private static void dropOfNone() {
        Due.sentence("Promise 7: There is none: -1.");
        Twins.refused("drop() of a new object", x -> { }, VectorLanes::drop, -1);
        Twins.refused("drop() of no tokens", x -> Kinds.fill(x, 2, EIGHT), VectorLanes::drop, -1);
        Twins.refused("drop() of none that are left", x -> {
            Kinds.fill(x, 2, EIGHT);
            Program.put(x, "INPUT 2");
            Due.is("drop() of one", x.drop(), 0);
        }, VectorLanes::drop, -1);
        Twins.refused("drop() after clear()", x -> {
            Kinds.fill(x, 2, EIGHT);
            Program.put(x, "INPUT 2, EACH, CONST 1");
            Due.is("clear()", x.clear(), 3);
        }, VectorLanes::drop, -1);
    }

    /** Each kind of token in each state where it is taken: put and dropped, nothing is seen of it. */
    private static void dropOfEachToken() {
        Due.sentence("Promise 7: Takes the last token away; all is as before it was put.");
        boolean[] met = new boolean[22];
        for (State state : State.ALL) {
            for (int kind = 0; kind <= 21; kind++) {
                for (int a = 0; a < (kind == Kinds.ELEMENT ? 2 : 1); a++) {
                    Model y = new Model();
                    state.on(y);
                    if (y.token(kind, a) > 0) {
                        met[kind] = true;
                        dropped(state, kind, a);
                    }
                }
            }
        }
        for (int kind = 0; kind <= 21; kind++) {
            Due.is(Program.name(kind) + " was put and dropped", met[kind] ? 1 : 0, 1);
        }
    }

    private static void dropped(State state, int kind, int a) {
        String token = Program.name(kind) + " " + a + " in the state " + state.name;
        Twins.alike("put and dropped: " + token, state::on, x -> {
            state.on(x);
            int count = x.token(kind, a);
            Due.is("drop()", x.drop(), count - 1);
        });
        Twins.alike("put, followed by others, asked of and dropped: " + token, state::on, x -> {
            state.on(x);
            int before = x.token(kind, a) - 1;
            x.mixture();
            x.token(Kinds.CONST, 1);
            x.token(Kinds.CONST, 2);
            for (int left = x.drop(); left > before && left > 0; left = x.drop()) {
                x.length();
            }
        });
    }

    private static void dropAnswers() {
        Due.sentence("Promise 7: Else answers how many are left.");
        VectorLanes x = withInputs("INPUT 2, EACH, INPUT 1, KEEP, ELEMENT 1, END, " + Program.times(34, "TURN"));
        for (int left = 39; left >= 0; left--) {
            Due.is("drop() of " + (left + 1), x.drop(), left);
        }
        Due.is("drop() of none", x.drop(), -1);
        Due.is("a token then", Program.token(x, "CONST 1"), 1);
    }

    private static void clearTakesAll() {
        Due.sentence("Promise 8: Takes all tokens away");
        for (State state : State.ALL) {
            Twins.alike("cleared, as though all had been dropped, in the state " + state.name, x -> {
                state.on(x);
                for (int t = 0; t < 40; t++) {
                    x.drop();
                }
            }, x -> {
                state.on(x);
                x.clear();
            });
            VectorLanes x = new VectorLanes();
            state.on(x);
            x.clear();
            Due.notWhole("cleared in the state " + state.name, x);
            Due.is("drop() then", x.drop(), -1);
            Due.is("clear() again", x.clear(), 0);
            Due.is("a token then", Program.token(x, "CONST 1"), 1);
        }
    }

    private static void clearAnswers() {
        Due.sentence("Promise 8: answers how many there were.");
        for (int count = 0; count <= 40; count++) {
            String program = count == 0 ? "" : "INPUT 0, " + Program.times(count - 1, "TURN");
            Due.is("clear() of " + count, Program.of(program).clear(), count);
        }
        Due.is("clear() of open blocks", Program.of("INPUT 0, EACH, INPUT 0, KEEP").clear(), 4);
    }

    private static void sortOfResults() {
        Due.sentence("Promise 11: 1 if the program is whole and its result is a number, 2 if it is a row");
        int[] gives = {1, 2, 0, 1, 1, 1, 1, 1, 1, 1, 1, 1, 1, 1, 2, 2, 2, 2, 2, 0, 0, 2};
        for (int kind = 0; kind <= 21; kind++) {
            VectorLanes x = Program.of(Program.needs(kind));
            Due.is(Program.name(kind) + " is taken", x.token(kind, 0) > 0 ? 1 : 0, 1);
            Due.is("sort() after " + Program.name(kind), x.sort(), gives[kind]);
        }
        Due.is("sort() of an empty row", withInputs("INPUT 0").sort(), 2);
        Due.is("sort() of a row of one", Program.of("INPUT 0", Program.row(1)).sort(), 2);
        Due.is("sort() of KEEP .. END", withInputs("INPUT 2, KEEP, CONST 1, END").sort(), 2);
    }

    private static void sortOfNotWhole() {
        Due.sentence("Promise 11: 0 if the program is not whole.");
        for (String program : NOT_WHOLE) {
            Due.is("sort() of " + program, noLongerWhole(program).sort(), 0);
        }
    }

    private static void lengthOfRows() {
        Due.sentence("Promise 12: How many elements the result has");
        for (int count = 0; count <= 8; count++) {
            Due.is("length() of a row of " + count, Program.of("CONST " + count + ", UPTO").length(), count);
        }
    }

    private static void lengthOfNumbers() {
        Due.sentence("Promise 12: (1 for a number)");
        for (int v : new int[] {-99, -1, 0, 1, 2, 8, 99}) {
            Due.is("length() of the number " + v, Program.of("CONST " + v).length(), 1);
        }
        Due.is("length() of SUM of none", withInputs("INPUT 0, SUM").length(), 1);
        Due.is("length() of LENGTH of eight", withInputs("INPUT 2, LENGTH").length(), 1);
    }

    private static void lengthOfNotWhole() {
        Due.sentence("Promise 12: -1 if the program is not whole.");
        for (String program : NOT_WHOLE) {
            Due.is("length() of " + program, noLongerWhole(program).length(), -1);
        }
    }

    private static void resultAtPlaces() {
        Due.sentence("Promise 13: The result's element at a place (place 0 for a number)");
        for (int place = 0; place < 8; place++) {
            Due.is("result(" + place + ") of eight", withInputs("INPUT 2").result(place), EIGHT[place]);
        }
        for (int place = 0; place < 3; place++) {
            Due.is("result(" + place + ") of three", withInputs("INPUT 1").result(place), THREE[place]);
        }
        Due.is("result(0) of a number", withInputs("INPUT 2, MOST").result(0), 9);
    }

    private static void resultAtNoPlace() {
        Due.sentence("Promise 13: 0 if there is none");
        for (int count = 0; count <= 8; count++) {
            // A full row of other numbers was worked out in the same place before.
            VectorLanes x = Program.of("INPUT 0", Program.row(1, 1, 1, 1, 1, 1, 1, 1));
            Due.is("mixture()", x.mixture(), 36);
            Kinds.fill(x, 0, java.util.Arrays.copyOf(EIGHT, count));
            for (int place = count; place < 10; place++) {
                Due.is("result(" + place + ") of " + count, x.result(place), 0);
            }
            for (int place : NO_PLACES) {
                Due.is("result(" + place + ") of " + count, x.result(place), 0);
            }
        }
        VectorLanes number = withInputs("INPUT 2, MOST");
        for (int place = 1; place < 8; place++) {
            Due.is("result(" + place + ") of a number", number.result(place), 0);
        }
        for (int place : NO_PLACES) {
            Due.is("result(" + place + ") of a number", number.result(place), 0);
        }
    }

    private static void resultOfNotWhole() {
        Due.sentence("Promise 13: or the program is not whole.");
        for (String program : NOT_WHOLE) {
            VectorLanes x = noLongerWhole(program);
            for (int place = -1; place < 9; place++) {
                Due.is("result(" + place + ") of " + program, x.result(place), 0);
            }
        }
    }

    private static void mixtureOfResults() {
        Due.sentence("Promise 14: The sum of the products of each element of the result with its place and 1 added");
        Due.is("of none", withInputs("INPUT 0").mixture(), 0);
        Due.is("of three", withInputs("INPUT 1").mixture(), 5 + 12 + 21);
        Due.is("of eight", withInputs("INPUT 2").mixture(), 4 - 14 + 16 + 45 - 42 + 7 + 16);
        Due.is("of a number", withInputs("CONST -77").mixture(), -77);
        for (int place = 0; place < 8; place++) {
            int[] row = new int[8];
            row[place] = 10;
            Due.is("of 10 at place " + place, Program.of("INPUT 0", row).mixture(), 10 * (place + 1));
        }
    }

    private static void mixtureWraps() {
        Due.sentence("Promise 14: (wrapping)");
        Due.is("a product at its bound", Program.of("INPUT 0", Program.row(0, 1073741823)).mixture(), MAX - 1);
        Due.is("a product that wraps", Program.of("INPUT 0", Program.row(0, 1073741824)).mixture(), MIN);
        Due.is("a sum at its bound", Program.of("INPUT 0", Program.row(1, 1073741823)).mixture(), MAX);
        Due.is("a sum that wraps", Program.of("INPUT 0", Program.row(2, 1073741823)).mixture(), MIN);
        Due.is("a sum at its lower bound", Program.of("INPUT 0", Program.row(0, -1073741824)).mixture(), MIN);
        Due.is("a sum that wraps below", Program.of("INPUT 0", Program.row(-1, -1073741824)).mixture(), MAX);
        Due.is("the eighth place", Program.of("INPUT 0", Program.row(0, 0, 0, 0, 0, 0, 0, MAX)).mixture(), -8);
    }

    private static void mixtureOfNotWhole() {
        Due.sentence("Promise 14: 0 if the program is not whole.");
        for (String program : NOT_WHOLE) {
            Due.is("mixture() of " + program, noLongerWhole(program).mixture(), 0);
        }
    }
}
