/** Compares answers with those that are due, and ends a test with exit code 1 if one was wrong. */
final class Due {
    private static int asked = 0;
    private static int wrong = 0;
    private static String sentence = "";
    private static int sentences = 0;
    private static int askedBefore = 0;

    private Due() {
    }

    /** The answers that follow, up to the next sentence, are those that this sentence of the document asks for. */
    static void sentence(String words) {
        closeSentence();
        sentence = words;
        sentences++;
        askedBefore = asked;
    }

    /** Runs the test of each sentence, also after one that breaks off. */
    static void each(Runnable... tests) {
        for (Runnable test : tests) {
            try {
                test.run();
            } catch (RuntimeException e) {
                is("threw " + e + ":", 1, 0);
            }
        }
    }

    private static void closeSentence() {
        if (sentences > 0 && asked == askedBefore) {
            is("nothing was asked", 0, 1);
        }
    }

    static void is(String call, int got, int want) {
        asked++;
        if (got != want) {
            wrong++;
            String of = sentence.isEmpty() ? "" : "\"" + sentence + "\": ";
            System.out.println(of + call + " answered " + got + ", due is " + want);
        }
    }

    /** The result's sort, elements and all that the questions tell of them. */
    static void number(String what, VectorLanes x, int want) {
        is(what + ": sort()", x.sort(), 1);
        is(what + ": length()", x.length(), 1);
        is(what + ": result(-1)", x.result(-1), 0);
        is(what + ": result(0)", x.result(0), want);
        is(what + ": result(1)", x.result(1), 0);
        is(what + ": mixture()", x.mixture(), want);
    }

    static void row(String what, VectorLanes x, int... want) {
        is(what + ": sort()", x.sort(), 2);
        is(what + ": length()", x.length(), want.length);
        int mixture = 0;
        for (int p = -1; p < 10; p++) {
            boolean there = p >= 0 && p < want.length;
            is(what + ": result(" + p + ")", x.result(p), there ? want[p] : 0);
            mixture += there ? want[p] * (p + 1) : 0;
        }
        is(what + ": mixture()", x.mixture(), mixture);
    }

    static void notWhole(String what, VectorLanes x) {
        is(what + ": sort()", x.sort(), 0);
        is(what + ": length()", x.length(), -1);
        is(what + ": result(0)", x.result(0), 0);
        is(what + ": mixture()", x.mixture(), 0);
    }

    static void inputRow(String what, VectorLanes x, int i, int... want) {
        is(what + ": size(" + i + ")", x.size(i), want.length);
        for (int p = -1; p < 10; p++) {
            boolean there = p >= 0 && p < want.length;
            is(what + ": input(" + i + ", " + p + ")", x.input(i, p), there ? want[p] : 0);
        }
    }

    static void end(String test) {
        closeSentence();
        String of = sentences == 0 ? "" : " to " + sentences + " sentences";
        System.out.println(test + ": " + asked + " answers" + of + ", " + wrong + " not as due");
        if (wrong != 0 || asked == 0) {
            System.exit(1);
        }
    }
}
