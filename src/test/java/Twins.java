import java.util.ArrayList;
import java.util.List;

/**
 * Compares two objects that must be alike by everything that questions and later calls show. Each look at them
 * is made of objects of its own, since it changes them, and since an object is good for 512 calls.
 */
final class Twins {
    interface Calls {
        void on(VectorLanes x);
    }

    interface Call {
        int on(VectorLanes x);
    }

    private interface Look {
        void at(VectorLanes x, List<Integer> seen);
    }

    private static final String[] LOOK_NAMES = {
        "the questions", "tokens that could follow", "drops", "clear and what fits after it",
        "an ending of the program", "puts, sets and empties", "stores",
    };
    private static final Look[] LOOKS = {
        Twins::questions, Twins::nextTokens, Twins::drops, Twins::clearing, Twins::ending, Twins::inputs, Twins::stores,
    };

    private Twins() {
    }

    /** The call is refused with this answer, and nothing is changed by it, nor by making it a second time. */
    static void refused(String call, Calls before, Call refused, int want) {
        alike("after refused " + call, before, x -> {
            before.on(x);
            Due.is(call, refused.on(x), want);
            Due.is(call + " again", refused.on(x), want);
        });
    }

    static void alike(String what, Calls one, Calls other) {
        for (int k = 0; k < LOOKS.length; k++) {
            List<Integer> wanted = seen(LOOKS[k], one);
            List<Integer> got = seen(LOOKS[k], other);
            int at = firstDifference(got, wanted);
            Due.is(what + ", " + LOOK_NAMES[k] + ": the first answer that differs", at, -1);
        }
    }

    private static int firstDifference(List<Integer> got, List<Integer> wanted) {
        for (int k = 0; k < got.size() && k < wanted.size(); k++) {
            if (!got.get(k).equals(wanted.get(k))) {
                return k;
            }
        }
        return got.size() == wanted.size() ? -1 : Math.min(got.size(), wanted.size());
    }

    private static List<Integer> seen(Look look, Calls calls) {
        VectorLanes x = new VectorLanes();
        calls.on(x);
        List<Integer> seen = new ArrayList<>();
        look.at(x, seen);
        return seen;
    }

    private static void questions(VectorLanes x, List<Integer> seen) {
        rows(x, seen);
        seen.add(x.sort());
        seen.add(x.length());
        for (int place = -1; place < 10; place++) {
            seen.add(x.result(place));
        }
        seen.add(x.mixture());
    }

    private static void rows(VectorLanes x, List<Integer> seen) {
        for (int i = 0; i < 3; i++) {
            seen.add(x.size(i));
            for (int place = 0; place < 8; place++) {
                seen.add(x.input(i, place));
            }
        }
    }

    private static void nextTokens(VectorLanes x, List<Integer> seen) {
        for (int kind = 0; kind <= 21; kind++) {
            for (int a = 0; a < (kind < Kinds.ADD ? 3 : 1); a++) {
                int answer = x.token(kind, a);
                seen.add(answer);
                if (answer > 0) {
                    seen.add(x.sort());
                    seen.add(x.mixture());
                    seen.add(x.drop());
                }
            }
        }
    }

    private static void drops(VectorLanes x, List<Integer> seen) {
        for (int t = 0; t < 41; t++) {
            seen.add(x.drop());
            seen.add(x.sort());
            seen.add(x.length());
            seen.add(x.mixture());
        }
    }

    private static void clearing(VectorLanes x, List<Integer> seen) {
        seen.add(x.clear());
        for (int kind = 2; kind <= 21; kind++) {
            seen.add(x.token(kind, 0));
        }
        for (int depth = 0; depth < 7; depth++) {
            seen.add(x.token(Kinds.INPUT, depth % 3));
        }
        seen.add(x.clear());
        for (int i = 0; i < 3; i++) {
            seen.add(x.token(Kinds.INPUT, i));
            seen.add(x.length());
            seen.add(x.mixture());
            seen.add(x.clear());
        }
        for (int t = 0; t < 41; t++) {
            seen.add(x.token(t == 0 ? Kinds.INPUT : Kinds.TURN, 0));
        }
    }

    /** Brings a program to its end, whatever stands in it, so that tokens within open blocks show as well. */
    private static void ending(VectorLanes x, List<Integer> seen) {
        int[] tries = {Kinds.END, Kinds.SUB, Kinds.JOIN, Kinds.AT, Kinds.SUM, Kinds.UPTO, Kinds.CONST};
        for (int step = 0; step < 30 && x.sort() == 0; step++) {
            int answer = -1;
            for (int k = 0; k < tries.length && answer < 0; k++) {
                answer = x.token(tries[k], 1);
                seen.add(answer);
            }
        }
        seen.add(x.sort());
        seen.add(x.mixture());
        seen.add(x.clear());
    }

    private static void inputs(VectorLanes x, List<Integer> seen) {
        for (int i = 0; i < 3; i++) {
            for (int place = 0; place < 9; place++) {
                seen.add(x.set(i, place, 70 + place));
            }
            rows(x, seen);
            for (int p = 0; p < 9; p++) {
                seen.add(x.put(i, 60 + p));
            }
            rows(x, seen);
            seen.add(x.mixture());
            seen.add(x.empty(i));
            seen.add(x.mixture());
        }
        rows(x, seen);
    }

    private static void stores(VectorLanes x, List<Integer> seen) {
        for (int i = 0; i < 3; i++) {
            seen.add(x.store(i));
            rows(x, seen);
            seen.add(x.mixture());
        }
    }
}
