/**
 * A small language for rows of numbers. Tokens are checked as they are put, by the sorts of the expressions on
 * the stack alone; a result is worked out only when it is asked for, since the inputs may change in between.
 */
public final class VectorLanes {
    private static final int CONST = 0;
    private static final int INPUT = 1;
    private static final int ELEMENT = 2;
    private static final int ADD = 3;
    private static final int SUB = 4;
    private static final int MUL = 5;
    private static final int DIV = 6;
    private static final int LESS = 7;
    private static final int EQUAL = 8;
    private static final int PICK = 9;
    private static final int LENGTH = 10;
    private static final int SUM = 11;
    private static final int MOST = 12;
    private static final int AT = 13;
    private static final int UPTO = 14;
    private static final int JOIN = 15;
    private static final int TURN = 16;
    private static final int SCAN = 17;
    private static final int SORT = 18;
    private static final int EACH = 19;
    private static final int KEEP = 20;
    private static final int END = 21;

    // These two are also what sort() answers.
    private static final int NUMBER = 1;
    private static final int ROW = 2;

    private static final int INPUTS = 3;
    private static final int ROW_ROOM = 8;
    private static final int TOKEN_ROOM = 40;
    private static final int STACK_ROOM = 6;
    private static final int BLOCK_ROOM = 2;
    private static final int CONST_LIMIT = 99;
    private static final int INPUT_CELLS = INPUTS * ROW_ROOM;
    private static final int STACK_CELLS = STACK_ROOM * ROW_ROOM;
    private static final int BLOCK_CELLS = BLOCK_ROOM * ROW_ROOM;
    // With two blocks open, a token is run at most once for each pair of their elements.
    private static final int STEP_ROOM = TOKEN_ROOM * ROW_ROOM * ROW_ROOM;

    private final int[] inputCells = new int[INPUT_CELLS];
    private final int[] inputSizes = new int[INPUTS];

    private final int[] kinds = new int[TOKEN_ROOM];
    private final int[] operands = new int[TOKEN_ROOM];
    private int tokenCount;

    // What the tokens so far leave on the stack, known without working anything out.
    private final int[] sorts = new int[STACK_ROOM];
    private int sortCount;
    private final int[] blockBases = new int[BLOCK_ROOM];
    private int openBlocks;

    // Used only while a program is worked out; nothing in them lasts beyond one call.
    // A number is held as a row of one element, so that both are read in the same way.
    private final int[] valueCells = new int[STACK_CELLS];
    private final int[] valueSizes = new int[STACK_ROOM];
    private int valueCount;
    private int nextToken;
    private final int[] laneCells = new int[BLOCK_CELLS];
    private final int[] laneSizes = new int[BLOCK_ROOM];
    private final int[] lanePlaces = new int[BLOCK_ROOM];
    private final int[] laneKinds = new int[BLOCK_ROOM];
    private final int[] laneStarts = new int[BLOCK_ROOM];
    private final int[] madeCells = new int[BLOCK_CELLS];
    private final int[] madeSizes = new int[BLOCK_ROOM];
    private int laneCount;

    public VectorLanes() {
    }

    public int put(int i, int v) {
        if (!isInput(i)) {
            return -1;
        }
        int count = inputSizes[i];
        if (count >= ROW_ROOM) {
            return -2;
        }
        inputCells[i * ROW_ROOM + count] = v;
        inputSizes[i] = count + 1;
        return count + 1;
    }

    public int set(int i, int place, int v) {
        if (!isInput(i)) {
            return -1;
        }
        if (place < 0 || place >= inputSizes[i]) {
            return -2;
        }
        inputCells[i * ROW_ROOM + place] = v;
        return 1;
    }

    public int empty(int i) {
        if (!isInput(i)) {
            return -1;
        }
        int count = inputSizes[i];
        inputSizes[i] = 0;
        return count;
    }

    public int store(int i) {
        if (!isInput(i)) {
            return -1;
        }
        if (!isWhole()) {
            return -2;
        }
        workOut();
        int count = valueSizes[0];
        for (int p = 0; p < count; p++) {
            inputCells[i * ROW_ROOM + p] = valueCells[p];
        }
        inputSizes[i] = count;
        return count;
    }

    public int token(int kind, int a) {
        if (!isToken(kind, a)) {
            return -1;
        }
        if (tokenCount >= TOKEN_ROOM) {
            return -2;
        }
        if (kind == ELEMENT && (a < 0 || a >= openBlocks)) {
            return -3;
        }
        if (!findsWhatItTakes(kind)) {
            return -4;
        }
        if (!hasRoom(kind)) {
            return -5;
        }
        kinds[tokenCount] = kind;
        operands[tokenCount] = a;
        tokenCount++;
        changeSorts(kind);
        return tokenCount;
    }

    public int drop() {
        if (tokenCount == 0) {
            return -1;
        }
        tokenCount--;
        rebuildSorts();
        return tokenCount;
    }

    public int clear() {
        int count = tokenCount;
        tokenCount = 0;
        rebuildSorts();
        return count;
    }

    public int size(int i) {
        if (!isInput(i)) {
            return -1;
        }
        return inputSizes[i];
    }

    public int input(int i, int place) {
        if (!isInput(i)) {
            return 0;
        }
        if (place < 0 || place >= inputSizes[i]) {
            return 0;
        }
        return inputCells[i * ROW_ROOM + place];
    }

    public int sort() {
        if (!isWhole()) {
            return 0;
        }
        return sorts[0];
    }

    public int length() {
        if (!isWhole()) {
            return -1;
        }
        workOut();
        return valueSizes[0];
    }

    public int result(int place) {
        if (!isWhole()) {
            return 0;
        }
        workOut();
        if (place < 0 || place >= valueSizes[0]) {
            return 0;
        }
        return valueCells[place];
    }

    public int mixture() {
        if (!isWhole()) {
            return 0;
        }
        workOut();
        int count = valueSizes[0];
        int sum = 0;
        for (int p = 0; p < count; p++) {
            sum += valueCells[p] * (p + 1);
        }
        return sum;
    }

    private boolean isInput(int i) {
        return i >= 0 && i < INPUTS;
    }

    private boolean isWhole() {
        return openBlocks == 0 && sortCount == 1;
    }

    private boolean isToken(int kind, int a) {
        if (kind < CONST || kind > END) {
            return false;
        }
        if (kind == CONST) {
            return a >= -CONST_LIMIT && a <= CONST_LIMIT;
        }
        if (kind == INPUT) {
            return isInput(a);
        }
        return true;
    }

    private boolean takesNothing(int kind) {
        return kind == CONST || kind == INPUT || kind == ELEMENT;
    }

    private boolean beginsBlock(int kind) {
        return kind == EACH || kind == KEEP;
    }

    private boolean hasRoom(int kind) {
        if (takesNothing(kind)) {
            return sortCount < STACK_ROOM;
        }
        if (beginsBlock(kind)) {
            return openBlocks < BLOCK_ROOM;
        }
        return true;
    }

    private boolean findsWhatItTakes(int kind) {
        switch (kind) {
            case CONST:
            case INPUT:
            case ELEMENT:
                return true;
            case PICK:
                return stands(0, NUMBER) && stands(1, NUMBER) && stands(2, NUMBER);
            case AT:
                return stands(0, NUMBER) && stands(1, ROW);
            case UPTO:
                return stands(0, NUMBER);
            case JOIN:
                return stands(0, ROW) && stands(1, ROW);
            case LENGTH:
            case SUM:
            case MOST:
            case TURN:
            case SCAN:
            case SORT:
            case EACH:
            case KEEP:
                return stands(0, ROW);
            case END:
                return openBlocks > 0 && sortCount - innermostBase() == 1 && stands(0, NUMBER);
            default:
                return stands(0, NUMBER) && stands(1, NUMBER);
        }
    }

    private boolean stands(int below, int wanted) {
        int place = sortCount - 1 - below;
        return place >= innermostBase() && sorts[place] == wanted;
    }

    private int innermostBase() {
        if (openBlocks == 0) {
            return 0;
        }
        return blockBases[openBlocks - 1];
    }

    private int howManyTaken(int kind) {
        switch (kind) {
            case CONST:
            case INPUT:
            case ELEMENT:
                return 0;
            case PICK:
                return 3;
            case ADD:
            case SUB:
            case MUL:
            case DIV:
            case LESS:
            case EQUAL:
            case AT:
            case JOIN:
                return 2;
            default:
                return 1;
        }
    }

    private int sortGiven(int kind) {
        if (kind == INPUT || kind >= UPTO) {
            return ROW;
        }
        return NUMBER;
    }

    // The token has been looked at before: what it takes is there, and there is room.
    private void changeSorts(int kind) {
        sortCount -= howManyTaken(kind);
        if (beginsBlock(kind)) {
            blockBases[openBlocks] = sortCount;
            openBlocks++;
            return;
        }
        if (kind == END) {
            openBlocks--;
        }
        sorts[sortCount] = sortGiven(kind);
        sortCount++;
    }

    // A token forgets what it took, so the stack before it is found by going through the others.
    // All of them fitted when they were put, and so fit now.
    private void rebuildSorts() {
        int count = tokenCount;
        sortCount = 0;
        openBlocks = 0;
        for (int t = 0; t < count; t++) {
            changeSorts(kinds[t]);
        }
    }

    // Only for a whole program; the result is then at place 0 of the values.
    // The indices are looked at in token(): what is put and taken here follows the sorts that were looked at there,
    // pass by pass, so the values are never fewer than a token takes nor more than STACK_ROOM, and a lane is open
    // just where its block is. A row's size is that of an input or of a lane, or is cut at ROW_ROOM where it is made.
    private void workOut() {
        valueCount = 0;
        laneCount = 0;
        nextToken = 0;
        for (int step = 0; step < STEP_ROOM && nextToken < tokenCount; step++) {
            int t = nextToken;
            nextToken = t + 1;
            runToken(kinds[t], operands[t]);
        }
    }

    private void runToken(int kind, int a) {
        switch (kind) {
            case CONST:
                pushNumber(a);
                break;
            case INPUT:
                pushInput(a);
                break;
            case ELEMENT:
                pushElement(a);
                break;
            case PICK:
                runPick();
                break;
            case LENGTH:
            case SUM:
            case MOST:
                runMeasure(kind);
                break;
            case AT:
                runAt();
                break;
            case UPTO:
                runUpTo();
                break;
            case JOIN:
                runJoin();
                break;
            case TURN:
                turnTop();
                break;
            case SCAN:
                scanTop();
                break;
            case SORT:
                sortTop();
                break;
            case EACH:
            case KEEP:
                beginLane(kind);
                break;
            case END:
                endPass();
                break;
            default:
                runPair(kind);
        }
    }

    private void pushNumber(int v) {
        valueCells[valueCount * ROW_ROOM] = v;
        valueSizes[valueCount] = 1;
        valueCount++;
    }

    private int popNumber() {
        valueCount--;
        return valueCells[valueCount * ROW_ROOM];
    }

    private void pushInput(int i) {
        int to = valueCount * ROW_ROOM;
        int from = i * ROW_ROOM;
        int count = inputSizes[i];
        for (int p = 0; p < count; p++) {
            valueCells[to + p] = inputCells[from + p];
        }
        valueSizes[valueCount] = count;
        valueCount++;
    }

    private void pushElement(int lane) {
        int v = currentElement(lane);
        pushNumber(v);
    }

    private int currentElement(int lane) {
        return laneCells[lane * ROW_ROOM + lanePlaces[lane]];
    }

    private void runPick() {
        int k = popNumber();
        int m = popNumber();
        int n = popNumber();
        pushNumber(n != 0 ? m : k);
    }

    private void runPair(int kind) {
        int m = popNumber();
        int n = popNumber();
        int v = combine(kind, n, m);
        pushNumber(v);
    }

    private int combine(int kind, int n, int m) {
        switch (kind) {
            case ADD:
                return n + m;
            case SUB:
                return n - m;
            case MUL:
                return n * m;
            case DIV:
                return m == 0 ? 0 : n / m;
            case LESS:
                return n < m ? 1 : 0;
            default:
                return n == m ? 1 : 0;
        }
    }

    private void runMeasure(int kind) {
        valueCount--;
        int from = valueCount * ROW_ROOM;
        int count = valueSizes[valueCount];
        int v = count;
        if (kind == SUM) {
            v = sumOf(from, count);
        } else if (kind == MOST) {
            v = greatestOf(from, count);
        }
        pushNumber(v);
    }

    private int sumOf(int from, int count) {
        int sum = 0;
        for (int p = 0; p < count; p++) {
            sum += valueCells[from + p];
        }
        return sum;
    }

    private int greatestOf(int from, int count) {
        if (count == 0) {
            return 0;
        }
        int greatest = valueCells[from];
        for (int p = 1; p < count; p++) {
            if (valueCells[from + p] > greatest) {
                greatest = valueCells[from + p];
            }
        }
        return greatest;
    }

    private void runAt() {
        int place = popNumber();
        valueCount--;
        int v = 0;
        if (place >= 0 && place < valueSizes[valueCount]) {
            v = valueCells[valueCount * ROW_ROOM + place];
        }
        pushNumber(v);
    }

    private void runUpTo() {
        int count = popNumber();
        if (count < 0) {
            count = 0;
        }
        if (count > ROW_ROOM) {
            count = ROW_ROOM;
        }
        int to = valueCount * ROW_ROOM;
        for (int p = 0; p < count; p++) {
            valueCells[to + p] = p;
        }
        valueSizes[valueCount] = count;
        valueCount++;
    }

    private void runJoin() {
        valueCount--;
        int first = valueCount - 1;
        int count = valueSizes[first];
        int to = first * ROW_ROOM;
        int from = valueCount * ROW_ROOM;
        int more = valueSizes[valueCount];
        for (int p = 0; p < more && count < ROW_ROOM; p++) {
            valueCells[to + count] = valueCells[from + p];
            count++;
        }
        valueSizes[first] = count;
    }

    private void turnTop() {
        int top = valueCount - 1;
        int first = top * ROW_ROOM;
        int last = first + valueSizes[top] - 1;
        int half = valueSizes[top] / 2;
        for (int p = 0; p < half; p++) {
            swapCells(first + p, last - p);
        }
    }

    private void swapCells(int one, int other) {
        int kept = valueCells[one];
        valueCells[one] = valueCells[other];
        valueCells[other] = kept;
    }

    private void scanTop() {
        int top = valueCount - 1;
        int from = top * ROW_ROOM;
        int count = valueSizes[top];
        for (int p = 1; p < count; p++) {
            valueCells[from + p] += valueCells[from + p - 1];
        }
    }

    private void sortTop() {
        int top = valueCount - 1;
        int from = top * ROW_ROOM;
        int end = from + valueSizes[top];
        for (int c = from + 1; c < end; c++) {
            for (int d = c; d > from && valueCells[d - 1] > valueCells[d]; d--) {
                swapCells(d - 1, d);
            }
        }
    }

    private void beginLane(int kind) {
        int top = valueCount - 1;
        int count = valueSizes[top];
        if (count == 0) {
            // Either kind of block makes an empty row of an empty one, which already stands there.
            skipBlock();
            return;
        }
        int lane = laneCount;
        for (int p = 0; p < count; p++) {
            laneCells[lane * ROW_ROOM + p] = valueCells[top * ROW_ROOM + p];
        }
        laneSizes[lane] = count;
        lanePlaces[lane] = 0;
        laneKinds[lane] = kind;
        laneStarts[lane] = nextToken;
        madeSizes[lane] = 0;
        laneCount++;
        valueCount--;
    }

    private void skipBlock() {
        int count = tokenCount;
        int open = 1;
        int t = nextToken;
        for (; t < count && open > 0; t++) {
            if (beginsBlock(kinds[t])) {
                open++;
            } else if (kinds[t] == END) {
                open--;
            }
        }
        nextToken = t;
    }

    private void endPass() {
        int lane = laneCount - 1;
        int v = popNumber();
        if (laneKinds[lane] == EACH) {
            addMade(lane, v);
        } else if (v != 0) {
            int kept = currentElement(lane);
            addMade(lane, kept);
        }
        lanePlaces[lane]++;
        if (lanePlaces[lane] < laneSizes[lane]) {
            nextToken = laneStarts[lane];
        } else {
            endLane(lane);
        }
    }

    private void addMade(int lane, int v) {
        madeCells[lane * ROW_ROOM + madeSizes[lane]] = v;
        madeSizes[lane]++;
    }

    private void endLane(int lane) {
        int to = valueCount * ROW_ROOM;
        int count = madeSizes[lane];
        for (int p = 0; p < count; p++) {
            valueCells[to + p] = madeCells[lane * ROW_ROOM + p];
        }
        valueSizes[valueCount] = count;
        valueCount++;
        laneCount--;
    }
}
