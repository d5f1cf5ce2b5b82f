import java.util.ArrayList;
import java.util.Collections;
import java.util.List;

/**
 * VectorLanes once more, with trees, lists and recursion instead of arrays and jumps: an expression is a tree,
 * and the whole program is parsed anew at each question.
 */
final class Model {
    /** An expression: the token that made it, what it took, and for a block what stands in it. */
    private static final class Tree {
        final int kind;
        final int a;
        final List<Tree> taken = new ArrayList<>();
        Tree body;

        Tree(int kind, int a) {
            this.kind = kind;
            this.a = a;
        }

        boolean isRow() {
            return kind == 1 || kind >= 14;
        }
    }

    /** The expressions put since a block began (or since the program began, with no block). */
    private static final class Frame {
        final Tree block;
        final List<Tree> stack = new ArrayList<>();

        Frame(Tree block) {
            this.block = block;
        }
    }

    private static final String[] TAKES = {
        "", "", "", "nn", "nn", "nn", "nn", "nn", "nn", "nnn", "r", "r", "r", "rn", "n", "rr", "r", "r", "r", "r", "r",
    };

    private final List<List<Integer>> inputs = new ArrayList<>();
    private final List<int[]> tokens = new ArrayList<>();

    Model() {
        for (int i = 0; i < 3; i++) {
            inputs.add(new ArrayList<>());
        }
    }

    int put(int i, int v) {
        if (i < 0 || i > 2) return -1;
        if (inputs.get(i).size() == 8) return -2;
        inputs.get(i).add(v);
        return inputs.get(i).size();
    }

    int set(int i, int place, int v) {
        if (i < 0 || i > 2) return -1;
        if (place < 0 || place >= inputs.get(i).size()) return -2;
        inputs.get(i).set(place, v);
        return 1;
    }

    int empty(int i) {
        if (i < 0 || i > 2) return -1;
        int had = inputs.get(i).size();
        inputs.set(i, new ArrayList<>());
        return had;
    }

    int store(int i) {
        if (i < 0 || i > 2) return -1;
        Tree whole = whole();
        if (whole == null) return -2;
        inputs.set(i, new ArrayList<>(value(whole, new ArrayList<>())));
        return inputs.get(i).size();
    }

    int token(int kind, int a) {
        if (kind < 0 || kind > 21) return -1;
        if (kind == 0 && Math.abs((long) a) > 99) return -1;
        if (kind == 1 && (a < 0 || a > 2)) return -1;
        if (tokens.size() == 40) return -2;
        List<Frame> frames = parse();
        Frame inner = frames.get(frames.size() - 1);
        int open = frames.size() - 1;
        if (kind == 2 && (a < 0 || a >= open)) return -3;
        if (kind == 21) {
            if (open == 0 || inner.stack.size() != 1 || inner.stack.get(0).isRow()) return -4;
        } else if (!sorts(inner.stack).endsWith(TAKES[kind])) {
            return -4;
        }
        int height = 0;
        for (Frame f : frames) {
            height += f.stack.size();
        }
        if (kind <= 2 && height == 6) return -5;
        if ((kind == 19 || kind == 20) && open == 2) return -5;
        tokens.add(new int[] {kind, a});
        return tokens.size();
    }

    int drop() {
        if (tokens.isEmpty()) return -1;
        tokens.remove(tokens.size() - 1);
        return tokens.size();
    }

    int clear() {
        int had = tokens.size();
        tokens.clear();
        return had;
    }

    int size(int i) {
        return i < 0 || i > 2 ? -1 : inputs.get(i).size();
    }

    int input(int i, int place) {
        return i < 0 || i > 2 ? 0 : at(inputs.get(i), place);
    }

    int sort() {
        Tree whole = whole();
        return whole == null ? 0 : whole.isRow() ? 2 : 1;
    }

    int length() {
        Tree whole = whole();
        return whole == null ? -1 : value(whole, new ArrayList<>()).size();
    }

    int result(int place) {
        Tree whole = whole();
        return whole == null ? 0 : at(value(whole, new ArrayList<>()), place);
    }

    int mixture() {
        Tree whole = whole();
        if (whole == null) return 0;
        long sum = 0;
        int factor = 0;
        for (int v : value(whole, new ArrayList<>())) {
            factor++;
            sum += (long) v * factor;
        }
        return (int) sum;
    }

    /** How deep the blocks of the whole program stand within one another. */
    int blocksWithin() {
        int open = 0;
        int most = 0;
        for (int[] token : tokens) {
            open += token[0] == 21 ? -1 : token[0] >= 19 ? 1 : 0;
            most = Math.max(most, open);
        }
        return most;
    }

    private static int at(List<Integer> row, int place) {
        return place < 0 || place >= row.size() ? 0 : row.get(place);
    }

    private static String sorts(List<Tree> stack) {
        StringBuilder sorts = new StringBuilder();
        for (Tree t : stack) {
            sorts.append(t.isRow() ? 'r' : 'n');
        }
        return sorts.toString();
    }

    private List<Frame> parse() {
        List<Frame> frames = new ArrayList<>();
        frames.add(new Frame(null));
        for (int[] token : tokens) {
            Frame inner = frames.get(frames.size() - 1);
            if (token[0] == 21) {
                frames.remove(frames.size() - 1);
                inner.block.body = inner.stack.get(0);
                frames.get(frames.size() - 1).stack.add(inner.block);
                continue;
            }
            Tree tree = new Tree(token[0], token[1]);
            for (int t = 0; t < TAKES[token[0]].length(); t++) {
                tree.taken.add(0, inner.stack.remove(inner.stack.size() - 1));
            }
            if (token[0] >= 19) {
                frames.add(new Frame(tree));
            } else {
                inner.stack.add(tree);
            }
        }
        return frames;
    }

    private Tree whole() {
        List<Frame> frames = parse();
        return frames.size() == 1 && frames.get(0).stack.size() == 1 ? frames.get(0).stack.get(0) : null;
    }

    private int number(Tree t, int which, List<Integer> elements) {
        return value(t.taken.get(which), elements).get(0);
    }

    private List<Integer> value(Tree t, List<Integer> elements) {
        switch (t.kind) {
            case 0: return List.of(t.a);
            case 1: return inputs.get(t.a);
            case 2: return List.of(elements.get(t.a));
            case 9: return List.of(number(t, 0, elements) != 0 ? number(t, 1, elements) : number(t, 2, elements));
            case 13: return List.of(at(value(t.taken.get(0), elements), number(t, 1, elements)));
            case 14: return counted(number(t, 0, elements));
            default: break;
        }
        if (t.kind < 9) {
            return List.of((int) pair(t.kind, number(t, 0, elements), number(t, 1, elements)));
        }
        List<Integer> row = new ArrayList<>(value(t.taken.get(0), elements));
        switch (t.kind) {
            case 10: return List.of(row.size());
            case 11: return List.of(row.stream().reduce(0, Integer::sum));
            case 12: return List.of(row.isEmpty() ? 0 : Collections.max(row));
            case 15:
                row.addAll(value(t.taken.get(1), elements));
                return row.size() > 8 ? row.subList(0, 8) : row;
            case 16:
                Collections.reverse(row);
                return row;
            case 17: return scanned(row);
            case 18:
                Collections.sort(row);
                return row;
            default: return block(t, row, elements);
        }
    }

    private static long pair(int kind, long n, long m) {
        switch (kind) {
            case 3: return n + m;
            case 4: return n - m;
            case 5: return n * m;
            case 6: return m == 0 ? 0 : n / m;
            case 7: return n < m ? 1 : 0;
            default: return n == m ? 1 : 0;
        }
    }

    private static List<Integer> counted(int n) {
        List<Integer> row = new ArrayList<>();
        while (row.size() < n && row.size() < 8) {
            row.add(row.size());
        }
        return row;
    }

    private static List<Integer> scanned(List<Integer> row) {
        List<Integer> sums = new ArrayList<>();
        for (int p = 0; p < row.size(); p++) {
            sums.add(row.subList(0, p + 1).stream().reduce(0, Integer::sum));
        }
        return sums;
    }

    private List<Integer> block(Tree t, List<Integer> row, List<Integer> elements) {
        List<Integer> made = new ArrayList<>();
        for (int element : row) {
            List<Integer> within = new ArrayList<>(elements);
            within.add(element);
            int v = value(t.body, within).get(0);
            if (t.kind == 19) {
                made.add(v);
            } else if (v != 0) {
                made.add(element);
            }
        }
        return made;
    }
}
