import java.util.ArrayList;
import java.util.Arrays;
import java.util.Collections;
import java.util.List;

/** Programs in words, as "INPUT 0, EACH, ELEMENT 0, END"; where no number stands after a kind, its a is 0. */
final class Program {
    private static final List<String> NAMES = Arrays.asList(
        "CONST", "INPUT", "ELEMENT", "ADD", "SUB", "MUL", "DIV", "LESS", "EQUAL", "PICK", "LENGTH", "SUM", "MOST",
        "AT", "UPTO", "JOIN", "TURN", "SCAN", "SORT", "EACH", "KEEP", "END");

    /** What a token of each kind takes, in words that put it there; for ELEMENT and END a block begins first. */
    private static final String NUMBERS = "CONST 3, CONST 2";
    private static final String[] NEEDS = {
        "", "", "INPUT 0, EACH", NUMBERS, NUMBERS, NUMBERS, NUMBERS, NUMBERS, NUMBERS, "CONST 1, " + NUMBERS,
        "INPUT 0", "INPUT 0", "INPUT 0", "INPUT 0, CONST 1", "CONST 3", "INPUT 0, INPUT 1", "INPUT 0", "INPUT 0",
        "INPUT 0", "INPUT 0", "INPUT 0", "INPUT 0, EACH, CONST 4",
    };

    private Program() {
    }

    static String name(int kind) {
        return NAMES.get(kind);
    }

    static String needs(int kind) {
        return NEEDS[kind];
    }

    /** Parts that are empty are left out, so that programs can be put together from parts. */
    static List<String> words(String program) {
        List<String> words = new ArrayList<>();
        for (String word : program.split(", ")) {
            if (!word.isEmpty()) {
                words.add(word);
            }
        }
        return words;
    }

    static int kindOf(String word) {
        return NAMES.indexOf(word.split(" ")[0]);
    }

    static int operandOf(String word) {
        int gap = word.indexOf(' ');
        return gap < 0 ? 0 : Integer.parseInt(word.substring(gap + 1));
    }

    static int token(VectorLanes x, String word) {
        return x.token(kindOf(word), operandOf(word));
    }

    /** Puts all the tokens, each of which must be taken. */
    static void put(VectorLanes x, String program) {
        for (String word : words(program)) {
            int answer = token(x, word);
            Due.is(word + " of " + program + " is taken (" + answer + ")", answer > 0 ? 1 : 0, 1);
        }
    }

    /** An object with these tokens and with its first inputs filled. */
    static VectorLanes of(String program, int[]... inputs) {
        VectorLanes x = new VectorLanes();
        for (int i = 0; i < inputs.length; i++) {
            Kinds.fill(x, i, inputs[i]);
        }
        put(x, program);
        return x;
    }

    static int[] row(int... elements) {
        return elements;
    }

    static String times(int count, String words) {
        return String.join(", ", Collections.nCopies(count, words));
    }
}
