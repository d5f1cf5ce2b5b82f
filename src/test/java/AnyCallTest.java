import java.util.Arrays;

/** Rules 7 and 11 of LANGUAGE.md: whatever is called in whatever state, an answer comes, and always the same. */
final class AnyCallTest {
    private static final int MIN = Integer.MIN_VALUE;
    private static final int MAX = Integer.MAX_VALUE;
    private static final int[] WIDE = {
        MIN, MIN + 1, -65536, -100, -99, -22, -9, -8, -2, -1, 0, 1, 2, 3, 5, 6, 7, 8, 9, 20, 21, 22, 23, 24, 39, 40, 41,
        48, 99, 100, 65536, 1 << 29, 1 << 30, MAX - 1, MAX,
    };
    private static final int CALLS = 13;

    private static long state = 0;

    public static void main(String[] args) {
        Due.each(AnyCallTest::neverThrows, AnyCallTest::neverThrowsInLongUse, AnyCallTest::sameCallsSameAnswers);
        Due.end("AnyCallTest");
    }

    private static int call(VectorLanes x, int which, int one, int two, int three) {
        switch (which) {
            case 0: return x.put(one, two);
            case 1: return x.set(one, two, three);
            case 2: return x.empty(one);
            case 3: return x.store(one);
            case 4: return x.token(one, two);
            case 5: return x.drop();
            case 6: return x.clear();
            case 7: return x.size(one);
            case 8: return x.input(one, two);
            case 9: return x.sort();
            case 10: return x.length();
            case 11: return x.result(one);
            default: return x.mixture();
        }
    }

    private static boolean throwsAt(VectorLanes x, int which, int one, int two, int three) {
        try {
            call(x, which, one, two, three);
            return false;
        } catch (RuntimeException | Error e) {
            System.out.println("call " + which + " of " + one + ", " + two + ", " + three + ": " + e);
            return true;
        }
    }

    private static void neverThrows() {
        Due.sentence("LANGUAGE.md, rule 7: No call may ever throw or fail to end, for any arguments in any state");
        for (State s : State.ALL) {
            for (int which = 0; which < CALLS; which++) {
                int thrown = 0;
                for (int one : WIDE) {
                    for (int two : WIDE) {
                        VectorLanes x = new VectorLanes();
                        s.on(x);
                        thrown += throwsAt(x, which, one, two, two) ? 1 : 0;
                        thrown += throwsAt(x, CALLS - 1, 0, 0, 0) ? 1 : 0;
                    }
                }
                Due.is("throws of call " + which + " in the state " + s.name, thrown, 0);
            }
        }
    }

    private static int next(int bound) {
        state = state * 6364136223846793005L + 1442695040888963407L;
        return (int) ((state >>> 33) % bound);
    }

    private static int argument() {
        return next(4) == 0 ? WIDE[next(WIDE.length)] : next(22);
    }

    /** Tokens come most often, and clear seldom, so that programs grow. */
    private static int whichCall() {
        int which = next(60);
        return which < CALLS ? which : which < 50 ? 4 : 0;
    }

    /** What comes after the 512th call is free to answer anything, but it must answer. */
    private static void neverThrowsInLongUse() {
        Due.sentence("LANGUAGE.md, rule 7: No call may ever throw .. in any state (after the 512th call as well)");
        for (int run = 0; run < 10; run++) {
            VectorLanes x = new VectorLanes();
            state = run;
            int thrown = 0;
            for (int k = 0; k < 100000; k++) {
                thrown += throwsAt(x, whichCall(), argument(), argument(), argument()) ? 1 : 0;
            }
            Due.is("throws in run " + run, thrown, 0);
        }
    }

    private static int[] answers(int run) {
        VectorLanes x = new VectorLanes();
        state = run;
        int[] answers = new int[512];
        for (int k = 0; k < answers.length; k++) {
            answers[k] = call(x, whichCall(), argument(), argument(), argument());
        }
        return answers;
    }

    private static void sameCallsSameAnswers() {
        Due.sentence("LANGUAGE.md, rule 11: the same calls always give the same answers");
        for (int run = 0; run < 200; run++) {
            Due.is("run " + run + " twice", Arrays.equals(answers(run), answers(run)) ? 1 : 0, 1);
        }
    }
}
