/**
 * Long mixed runs of calls, each asked of VectorLanes and of the model. The calls come from a fixed row of
 * numbers, so that every run of this test is the same.
 */
final class ModelTest {
    private static final int RUNS = 6000;
    private static final int CALLS = 512;
    private static final int[] WIDE = {
        Integer.MIN_VALUE, Integer.MIN_VALUE + 1, -100, -99, -1, 0, 1, 2, 7, 8, 9, 99, 100, Integer.MAX_VALUE,
    };

    private static long state = 20261115L;
    private static int wholes = 0;
    private static int nestings = 0;

    private VectorLanes x = new VectorLanes();
    private Model y = new Model();
    private int calls = 0;

    public static void main(String[] args) {
        for (int run = 0; run < RUNS; run++) {
            new ModelTest().run();
        }
        Due.is("enough whole programs were met (" + wholes + ")", wholes > 20 * RUNS ? 1 : 0, 1);
        Due.is("enough nested blocks were met (" + nestings + ")", nestings > 2 * RUNS ? 1 : 0, 1);
        Due.end("ModelTest");
    }

    private static int below(int bound) {
        state = state * 6364136223846793005L + 1442695040888963407L;
        return (int) ((state >>> 33) % bound);
    }

    private static int value() {
        return below(8) == 0 ? WIDE[below(WIDE.length)] : below(21) - 8;
    }

    /** Mostly one that is there, at times one beyond, seldom one far away. */
    private static int index(int bound) {
        return below(12) == 0 ? value() : below(bound);
    }

    private void due(String call, int got, int want) {
        calls++;
        Due.is(call, got, want);
    }

    private void run() {
        int eagerness = 1 + below(4);
        while (calls < CALLS - 60) {
            int what = below(20);
            if (below(12) == 0) {
                putProgram();
            } else if (what < 8 + 2 * eagerness) {
                putToken();
            } else if (what < 17) {
                changeInputs();
            } else if (what < 19) {
                askOfInputs();
            } else {
                takeTokens();
            }
            askOfResult();
        }
        Due.is("the object was used for at most " + CALLS + " calls (" + calls + ")", calls <= CALLS ? 1 : 0, 1);
    }

    private void putToken() {
        int kind = below(40) == 0 ? value() : below(22);
        if (below(3) == 0) {
            kind = kindThatFits(kind);
        }
        int a = kind == 0 ? below(10) == 0 ? value() : below(15) - 5 : kind == 1 ? index(3) : index(2);
        token(kind, a);
    }

    private void token(int kind, int a) {
        due("token(" + kind + ", " + a + ")", x.token(kind, a), y.token(kind, a));
    }

    /** One expression put together from its parts; it may be refused midway where it outgrows a limit. */
    private void putProgram() {
        due("clear()", x.clear(), y.clear());
        if (below(2) == 0) {
            putBlock(3, 0);
        } else {
            putRow(4, 0);
        }
        if (y.sort() != 0 && y.blocksWithin() > 1) {
            nestings++;
        }
    }

    private void putNumber(int depth, int open) {
        if (depth <= 0 || calls > CALLS - 20) {
            if (open > 0 && below(4) != 0) {
                token(Kinds.ELEMENT, below(open));
            } else {
                token(Kinds.CONST, below(12) - 4);
            }
            return;
        }
        int kind = 3 + below(11);
        if (kind < Kinds.PICK) {
            putNumber(depth - 1, open);
            putNumber(depth - 2, open);
        } else if (kind == Kinds.PICK) {
            putNumber(depth - 1, open);
            putNumber(depth - 2, open);
            putNumber(depth - 2, open);
        } else {
            putRow(depth - 1, open);
            if (kind == Kinds.AT) {
                putNumber(depth - 2, open);
            }
        }
        token(kind, 0);
    }

    private void putRow(int depth, int open) {
        if (depth <= 0 || calls > CALLS - 20) {
            token(Kinds.INPUT, below(3));
            return;
        }
        int kind = 14 + below(7);
        if (kind >= Kinds.EACH && open < 2) {
            putBlock(depth, open);
            return;
        }
        if (kind == Kinds.UPTO) {
            putNumber(depth - 1, open);
        } else {
            putRow(depth - 1, open);
        }
        if (kind == Kinds.JOIN) {
            putRow(depth - 2, open);
        }
        token(kind, 0);
    }

    private void putBlock(int depth, int open) {
        putRow(depth - 2, open);
        token(Kinds.EACH + below(2), 0);
        if (open == 0 && below(2) == 0) {
            putBlock(depth, 1);
            token(10 + below(3), 0);
        } else {
            putNumber(depth - 1, open + 1);
        }
        token(Kinds.END, 0);
    }

    /** Ends blocks and takes what stands there more often than chance would, so that programs become whole. */
    private int kindThatFits(int first) {
        for (int k = 0; k < 22; k++) {
            int kind = 21 - (Math.floorMod(first, 22) + k) % 22;
            if (kind > 2 && y.token(kind, 0) > 0) {
                y.drop();
                return kind;
            }
        }
        return first;
    }

    private void changeInputs() {
        int i = index(3);
        int v = value();
        switch (below(8)) {
            case 0:
            case 1:
            case 2:
            case 3:
                due("put(" + i + ", " + v + ")", x.put(i, v), y.put(i, v));
                break;
            case 4:
                int place = index(8);
                due("set(" + i + ", " + place + ", " + v + ")", x.set(i, place, v), y.set(i, place, v));
                break;
            case 5:
                if (below(3) == 0) {
                    due("empty(" + i + ")", x.empty(i), y.empty(i));
                }
                break;
            default:
                due("store(" + i + ")", x.store(i), y.store(i));
        }
    }

    private void askOfInputs() {
        int i = index(3);
        int place = index(9);
        due("size(" + i + ")", x.size(i), y.size(i));
        due("input(" + i + ", " + place + ")", x.input(i, place), y.input(i, place));
    }

    private void takeTokens() {
        if (below(6) == 0) {
            due("clear()", x.clear(), y.clear());
            return;
        }
        for (int left = below(4); left >= 0; left--) {
            due("drop()", x.drop(), y.drop());
        }
    }

    private void askOfResult() {
        int sort = y.sort();
        due("sort()", x.sort(), sort);
        if (sort == 0 && below(8) != 0) {
            return;
        }
        wholes += sort != 0 ? 1 : 0;
        int place = index(8);
        due("length()", x.length(), y.length());
        due("result(" + place + ")", x.result(place), y.result(place));
        due("mixture()", x.mixture(), y.mixture());
    }
}
