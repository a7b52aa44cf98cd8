public final class TypedTraces {
    public static final int LET = 0;
    public static final int FLAG = 1;
    public static final int VOID = 2;
    public static final int MOVE = 3;
    public static final int ADD = 4;
    public static final int SUB = 5;
    public static final int LESS = 6;
    public static final int SAME = 7;
    public static final int UNLESS = 8;
    public static final int JUMP = 9;
    public static final int PRINT = 10;
    public static final int READY = 0;
    public static final int ENDED = 1;
    public static final int FAULT = 2;
    public static final int BAD = -1;
    public static final int FULL = -2;

    private static final int VARIABLES = 6;
    private static final int MOST_INSTRUCTIONS = 24;
    private static final int MOST_STEPS = 300;
    private static final int MOST_KEPT = 24;
    private static final int MOST_THRESHOLD = 5;
    private static final int GREATEST_INT = 0x7fffffff;

    private static final int NOTHING_SORT = 0;
    private static final int INT_SORT = 1;
    private static final int FLAG_SORT = 2;

    // A turn of a loop that takes more steps than this isn't compiled.
    private static final int LONGEST_TURN = 32;
    private static final int CODES = MOST_INSTRUCTIONS * LONGEST_TURN;
    private static final int NOWHERE = -1;

    // The kinds of compiled code. None looks at a sort: those are settled when a trace is entered.
    private static final int SET = 0;
    private static final int COPY = 1;
    private static final int SUM = 2;
    private static final int EITHER = 3;
    private static final int DIFFERENCE = 4;
    private static final int BELOW = 5;
    private static final int EQUAL = 6;
    private static final int SHOW = 7;
    private static final int GUARD = 8;

    private final int threshold;

    private final int[] ops = new int[MOST_INSTRUCTIONS];
    private final int[] xs = new int[MOST_INSTRUCTIONS];
    private final int[] ys = new int[MOST_INSTRUCTIONS];
    private final int[] zs = new int[MOST_INSTRUCTIONS];
    private int size = 0;

    // Two bits for each variable, so that the sorts of all six are compared and set at once.
    private int sorts = 0;
    // The int, or 1 for the flag true, else 0: nothing is always 0 here, which SAME, UNLESS and value rely on.
    private final int[] numbers = new int[VARIABLES];
    private final long[] kept = new long[MOST_KEPT];
    private int printed = 0;
    private int place = 0;
    private int count = 0;
    private int status = READY;

    // How often a jump back has come to an instruction since it was last recorded from there.
    private final int[] heat = new int[MOST_INSTRUCTIONS];

    // The place that the loop being recorded begins at, and what is recorded of it so far.
    private int anchor = NOWHERE;
    private int recordedSteps = 0;
    private int recordedCodes = 0;

    // The trace of the loop that begins at an instruction: one turn, from there back to there. 0 steps: no trace.
    private final int[] turnSteps = new int[MOST_INSTRUCTIONS];
    private final int[] turnCodes = new int[MOST_INSTRUCTIONS];
    private final int[] sortsAtEntry = new int[MOST_INSTRUCTIONS];
    private final int[] sortsAtEnd = new int[MOST_INSTRUCTIONS];

    // The compiled code, LONGEST_TURN for each trace, and the steps and sorts that the machine has after each code.
    private final int[] kinds = new int[CODES];
    private final int[] codeV = new int[CODES];
    private final int[] codeA = new int[CODES];
    private final int[] codeB = new int[CODES];
    private final int[] codeSteps = new int[CODES];
    private final int[] codeSorts = new int[CODES];

    public TypedTraces(int threshold) {
        this.threshold = clamp(threshold, 1, MOST_THRESHOLD);
    }

    public int emit(int op, int x, int y, int z) {
        if (size >= MOST_INSTRUCTIONS) {
            return FULL;
        }
        if (!isInstruction(op, x, y, z)) {
            return BAD;
        }
        write(size, op, x, y, z);
        size++;
        return size;
    }

    public int replace(int i, int op, int x, int y) {
        if (i < 0 || i >= size) {
            return BAD;
        }
        if (hasThreeOperands(ops[i]) || hasThreeOperands(op) || !isInstruction(op, x, y, 0)) {
            return BAD;
        }
        write(i, op, x, y, 0);
        forgetTraces();
        return i;
    }

    public void restart() {
        for (int v = 0; v < VARIABLES; v++) {
            numbers[v] = 0;
        }
        sorts = 0;
        printed = 0;
        place = 0;
        count = 0;
        status = READY;
    }

    public boolean put(int v, int value) {
        if (!isVariable(v)) {
            return false;
        }
        assign(v, INT_SORT, value);
        return true;
    }

    public int run(int n) {
        int left = clamp(n, 0, MOST_STEPS);
        for (int i = 0; i < MOST_STEPS && left > 0 && status == READY; i++) {
            left -= advance(left);
        }
        // A recording ends with its run, so that no other call can change the machine or the program under it.
        anchor = NOWHERE;
        return status;
    }

    public int status() {
        return status;
    }

    public int place() {
        return place;
    }

    public int count() {
        return count;
    }

    public int sort(int v) {
        return isVariable(v) ? sortIn(sorts, v) : BAD;
    }

    public int value(int v) {
        return isVariable(v) ? numbers[v] : 0;
    }

    public int printed() {
        return printed;
    }

    public long output(int k) {
        if (k < 0 || k >= printed || k >= MOST_KEPT) {
            return -1;
        }
        return kept[k];
    }

    private static int clamp(int n, int least, int most) {
        return n < least ? least : n > most ? most : n;
    }

    private static boolean isVariable(int v) {
        return v >= 0 && v < VARIABLES;
    }

    private static boolean isTarget(int t) {
        return t >= 0 && t < MOST_INSTRUCTIONS;
    }

    private static boolean hasThreeOperands(int op) {
        return op >= ADD && op <= SAME;
    }

    private static boolean isInstruction(int op, int x, int y, int z) {
        if (op < LET || op > PRINT) {
            return false;
        }
        if (op == JUMP) {
            return isTarget(x);
        }
        if (!isVariable(x)) {
            return false;
        }
        if (op == UNLESS) {
            return isTarget(y);
        }
        if (op == MOVE) {
            return isVariable(y);
        }
        return !hasThreeOperands(op) || (isVariable(y) && isVariable(z));
    }

    private void write(int i, int op, int x, int y, int z) {
        ops[i] = op;
        xs[i] = x;
        ys[i] = y;
        zs[i] = z;
    }

    private static int sortIn(int packed, int v) {
        return (packed >> (2 * v)) & 3;
    }

    private void assign(int v, int sort, int number) {
        sorts = (sorts & ~(3 << (2 * v))) | (sort << (2 * v));
        numbers[v] = number;
    }

    private void print(int v, int sort) {
        if (printed < MOST_KEPT) {
            kept[printed] = 4L * numbers[v] + sort;
        }
        // Kept from wrapping, so that the index above is never negative.
        if (printed < GREATEST_INT) {
            printed++;
        }
    }

    // Answers the steps done, never 0: the loop in run counts on it.
    private int advance(int left) {
        if (anchor == NOWHERE && hasTrace(left)) {
            return runTrace(place);
        }
        int from = place;
        int sortsBefore = sorts;
        doStep();
        if (status == READY && anchor != NOWHERE) {
            noteStep(from, sortsBefore);
        } else if (status == READY && place <= from) {
            warm(place);
        }
        return 1;
    }

    private void doStep() {
        if (place >= size) {
            status = ENDED;
        } else if (mustFault(place)) {
            status = FAULT;
        } else {
            execute(place);
            count++;
        }
    }

    private boolean mustFault(int i) {
        int op = ops[i];
        if (op != ADD && op != SUB && op != LESS) {
            return false;
        }
        int left = sortIn(sorts, ys[i]);
        int right = sortIn(sorts, zs[i]);
        boolean bothInts = left == INT_SORT && right == INT_SORT;
        boolean bothFlags = left == FLAG_SORT && right == FLAG_SORT;
        return !bothInts && !(op == ADD && bothFlags);
    }

    private void execute(int i) {
        int x = xs[i];
        int y = ys[i];
        place = i + 1;
        switch (ops[i]) {
            case LET:
                assign(x, INT_SORT, y);
                break;
            case FLAG:
                assign(x, FLAG_SORT, y != 0 ? 1 : 0);
                break;
            case VOID:
                assign(x, NOTHING_SORT, 0);
                break;
            case MOVE:
                int moved = sortIn(sorts, y);
                assign(x, moved, numbers[y]);
                break;
            case UNLESS:
                if (sortIn(sorts, x) != INT_SORT && numbers[x] == 0) {
                    place = y;
                }
                break;
            case JUMP:
                place = x;
                break;
            case PRINT:
                int sort = sortIn(sorts, x);
                print(x, sort);
                break;
            default:
                combine(ops[i], x, y, zs[i]);
                break;
        }
    }

    private void combine(int op, int v, int a, int b) {
        int left = numbers[a];
        int right = numbers[b];
        int leftSort = sortIn(sorts, a);
        int rightSort = sortIn(sorts, b);
        if (op == ADD && leftSort == INT_SORT) {
            assign(v, INT_SORT, left + right);
        } else if (op == ADD) {
            assign(v, FLAG_SORT, left | right);
        } else if (op == SUB) {
            assign(v, INT_SORT, left - right);
        } else if (op == LESS) {
            assign(v, FLAG_SORT, left < right ? 1 : 0);
        } else {
            assign(v, FLAG_SORT, leftSort == rightSort && left == right ? 1 : 0);
        }
    }

    private void forgetTraces() {
        for (int i = 0; i < MOST_INSTRUCTIONS; i++) {
            heat[i] = 0;
            turnSteps[i] = 0;
        }
    }

    private void warm(int target) {
        heat[target]++;
        if (heat[target] < threshold) {
            return;
        }
        heat[target] = 0;
        // The recording is written over the older trace from this place, so that one must not run any more.
        turnSteps[target] = 0;
        sortsAtEntry[target] = sorts;
        recordedSteps = 0;
        recordedCodes = 0;
        anchor = target;
    }

    private void noteStep(int i, int sortsBefore) {
        if (recordedSteps >= LONGEST_TURN) {
            anchor = NOWHERE;
            return;
        }
        recordedSteps++;
        compile(i, sortsBefore);
        if (place == anchor) {
            turnSteps[anchor] = recordedSteps;
            turnCodes[anchor] = recordedCodes;
            sortsAtEnd[anchor] = sorts;
            anchor = NOWHERE;
        }
    }

    // The sorts before a step settle whether it faults, what it does and the sorts after it. So a turn that begins with
    // the recorded sorts has them all along, unless an UNLESS on a flag goes the other way: that alone is guarded.
    private void compile(int i, int sortsBefore) {
        int x = xs[i];
        int y = ys[i];
        switch (ops[i]) {
            case LET:
            case FLAG:
            case VOID:
                addCode(SET, x, numbers[x], 0);
                break;
            case MOVE:
                addCode(COPY, x, y, 0);
                break;
            case UNLESS:
                if (sortIn(sortsBefore, x) == FLAG_SORT) {
                    addCode(GUARD, x, numbers[x], numbers[x] == 0 ? i + 1 : y);
                }
                break;
            case JUMP:
                break;
            case PRINT:
                int sort = sortIn(sortsBefore, x);
                addCode(SHOW, x, sort, 0);
                break;
            default:
                compileCombining(i, sortsBefore);
                break;
        }
    }

    private void compileCombining(int i, int sortsBefore) {
        int leftSort = sortIn(sortsBefore, ys[i]);
        int rightSort = sortIn(sortsBefore, zs[i]);
        if (ops[i] == SAME && leftSort != rightSort) {
            addCode(SET, xs[i], 0, 0);
            return;
        }
        int kind = EQUAL;
        if (ops[i] == ADD) {
            kind = leftSort == INT_SORT ? SUM : EITHER;
        } else if (ops[i] == SUB) {
            kind = DIFFERENCE;
        } else if (ops[i] == LESS) {
            kind = BELOW;
        }
        addCode(kind, xs[i], ys[i], zs[i]);
    }

    private void addCode(int kind, int v, int a, int b) {
        int c = anchor * LONGEST_TURN + recordedCodes;
        kinds[c] = kind;
        codeV[c] = v;
        codeA[c] = a;
        codeB[c] = b;
        codeSteps[c] = recordedSteps;
        codeSorts[c] = sorts;
        recordedCodes++;
    }

    // A turn that is longer than the steps left is not begun, as a trace is left only at a guard or at its end.
    private boolean hasTrace(int left) {
        if (place >= size || turnSteps[place] == 0) {
            return false;
        }
        return turnSteps[place] <= left && sortsAtEntry[place] == sorts;
    }

    // Where a guard fails, its UNLESS has been executed all the same, the other way: it is among the steps answered.
    private int runTrace(int start) {
        int first = start * LONGEST_TURN;
        int end = first + turnCodes[start];
        for (int c = first; c < end; c++) {
            if (kinds[c] != GUARD) {
                runCode(c);
            } else if (numbers[codeV[c]] != codeA[c]) {
                return leaveTrace(codeB[c], codeSteps[c], codeSorts[c]);
            }
        }
        return leaveTrace(start, turnSteps[start], sortsAtEnd[start]);
    }

    private int leaveTrace(int next, int steps, int sortsThen) {
        place = next;
        count += steps;
        sorts = sortsThen;
        return steps;
    }

    private void runCode(int c) {
        int v = codeV[c];
        int a = codeA[c];
        int b = codeB[c];
        switch (kinds[c]) {
            case SET:
                numbers[v] = a;
                break;
            case COPY:
                numbers[v] = numbers[a];
                break;
            case SUM:
                numbers[v] = numbers[a] + numbers[b];
                break;
            case EITHER:
                numbers[v] = numbers[a] | numbers[b];
                break;
            case DIFFERENCE:
                numbers[v] = numbers[a] - numbers[b];
                break;
            case BELOW:
                numbers[v] = numbers[a] < numbers[b] ? 1 : 0;
                break;
            case EQUAL:
                numbers[v] = numbers[a] == numbers[b] ? 1 : 0;
                break;
            default:
                print(v, a);
                break;
        }
    }
}
