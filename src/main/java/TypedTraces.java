public final class TypedTraces {
    public static final int LET = 0;
    public static final int FLAG = 1;
    public static final int VOID = 2;
    public static final int MOVE = 3;
    public static final int ADD = 4;
    public static final int SUB = 5;
    public static final int LESS = 6;
    public static final int SAME = 7;
    public static final int UNLESS = 8;
    public static final int JUMP = 9;
    public static final int PRINT = 10;
    public static final int READY = 0;
    public static final int ENDED = 1;
    public static final int FAULT = 2;
    public static final int BAD = -1;
    public static final int FULL = -2;

    private static final int VARIABLES = 6;
    private static final int MOST_INSTRUCTIONS = 24;
    private static final int MOST_STEPS = 300;
    private static final int MOST_KEPT = 24;
    private static final int MOST_THRESHOLD = 5;
    private static final int GREATEST_INT = 0x7fffffff;

    private static final int NOTHING_SORT = 0;
    private static final int INT_SORT = 1;
    private static final int FLAG_SORT = 2;

    private final int threshold;

    private final int[] ops = new int[MOST_INSTRUCTIONS];
    private final int[] xs = new int[MOST_INSTRUCTIONS];
    private final int[] ys = new int[MOST_INSTRUCTIONS];
    private final int[] zs = new int[MOST_INSTRUCTIONS];
    private int size = 0;

    // Two bits for each variable, so that the sorts of all six are compared and set at once.
    private int sorts = 0;
    // The int, or 1 for the flag true, else 0: nothing is always 0 here, which SAME, UNLESS and value rely on.
    private final int[] numbers = new int[VARIABLES];
    private final long[] kept = new long[MOST_KEPT];
    private int printed = 0;
    private int place = 0;
    private int count = 0;
    private int status = READY;

    public TypedTraces(int threshold) {
        this.threshold = clamp(threshold, 1, MOST_THRESHOLD);
    }

    public int emit(int op, int x, int y, int z) {
        if (size >= MOST_INSTRUCTIONS) {
            return FULL;
        }
        if (!isInstruction(op, x, y, z)) {
            return BAD;
        }
        write(size, op, x, y, z);
        size++;
        return size;
    }

    public int replace(int i, int op, int x, int y) {
        if (i < 0 || i >= size) {
            return BAD;
        }
        if (hasThreeOperands(ops[i]) || hasThreeOperands(op) || !isInstruction(op, x, y, 0)) {
            return BAD;
        }
        write(i, op, x, y, 0);
        return i;
    }

    public void restart() {
        for (int v = 0; v < VARIABLES; v++) {
            numbers[v] = 0;
        }
        sorts = 0;
        printed = 0;
        place = 0;
        count = 0;
        status = READY;
    }

    public boolean put(int v, int value) {
        if (!isVariable(v)) {
            return false;
        }
        assign(v, INT_SORT, value);
        return true;
    }

    public int run(int n) {
        int steps = clamp(n, 0, MOST_STEPS);
        for (int i = 0; i < steps && status == READY; i++) {
            doStep();
        }
        return status;
    }

    public int status() {
        return status;
    }

    public int place() {
        return place;
    }

    public int count() {
        return count;
    }

    public int sort(int v) {
        return isVariable(v) ? sortIn(sorts, v) : BAD;
    }

    public int value(int v) {
        return isVariable(v) ? numbers[v] : 0;
    }

    public int printed() {
        return printed;
    }

    public long output(int k) {
        if (k < 0 || k >= printed || k >= MOST_KEPT) {
            return -1;
        }
        return kept[k];
    }

    private static int clamp(int n, int least, int most) {
        return n < least ? least : n > most ? most : n;
    }

    private static boolean isVariable(int v) {
        return v >= 0 && v < VARIABLES;
    }

    private static boolean isTarget(int t) {
        return t >= 0 && t < MOST_INSTRUCTIONS;
    }

    private static boolean hasThreeOperands(int op) {
        return op >= ADD && op <= SAME;
    }

    private static boolean isInstruction(int op, int x, int y, int z) {
        if (op < LET || op > PRINT) {
            return false;
        }
        if (op == JUMP) {
            return isTarget(x);
        }
        if (!isVariable(x)) {
            return false;
        }
        if (op == UNLESS) {
            return isTarget(y);
        }
        if (op == MOVE) {
            return isVariable(y);
        }
        return !hasThreeOperands(op) || (isVariable(y) && isVariable(z));
    }

    private void write(int i, int op, int x, int y, int z) {
        ops[i] = op;
        xs[i] = x;
        ys[i] = y;
        zs[i] = z;
    }

    private static int sortIn(int packed, int v) {
        return (packed >> (2 * v)) & 3;
    }

    private void assign(int v, int sort, int number) {
        sorts = (sorts & ~(3 << (2 * v))) | (sort << (2 * v));
        numbers[v] = number;
    }

    private void print(int v, int sort) {
        if (printed < MOST_KEPT) {
            kept[printed] = 4L * numbers[v] + sort;
        }
        // Kept from wrapping, so that the index above is never negative.
        if (printed < GREATEST_INT) {
            printed++;
        }
    }

    private void doStep() {
        if (place >= size) {
            status = ENDED;
        } else if (mustFault(place)) {
            status = FAULT;
        } else {
            execute(place);
            count++;
        }
    }

    private boolean mustFault(int i) {
        int op = ops[i];
        if (op != ADD && op != SUB && op != LESS) {
            return false;
        }
        int left = sortIn(sorts, ys[i]);
        int right = sortIn(sorts, zs[i]);
        boolean bothInts = left == INT_SORT && right == INT_SORT;
        boolean bothFlags = left == FLAG_SORT && right == FLAG_SORT;
        return !bothInts && !(op == ADD && bothFlags);
    }

    private void execute(int i) {
        int x = xs[i];
        int y = ys[i];
        place = i + 1;
        switch (ops[i]) {
            case LET:
                assign(x, INT_SORT, y);
                break;
            case FLAG:
                assign(x, FLAG_SORT, y != 0 ? 1 : 0);
                break;
            case VOID:
                assign(x, NOTHING_SORT, 0);
                break;
            case MOVE:
                int moved = sortIn(sorts, y);
                assign(x, moved, numbers[y]);
                break;
            case UNLESS:
                if (sortIn(sorts, x) != INT_SORT && numbers[x] == 0) {
                    place = y;
                }
                break;
            case JUMP:
                place = x;
                break;
            case PRINT:
                int sort = sortIn(sorts, x);
                print(x, sort);
                break;
            default:
                combine(ops[i], x, y, zs[i]);
                break;
        }
    }

    private void combine(int op, int v, int a, int b) {
        int left = numbers[a];
        int right = numbers[b];
        int leftSort = sortIn(sorts, a);
        int rightSort = sortIn(sorts, b);
        if (op == ADD && leftSort == INT_SORT) {
            assign(v, INT_SORT, left + right);
        } else if (op == ADD) {
            assign(v, FLAG_SORT, left | right);
        } else if (op == SUB) {
            assign(v, INT_SORT, left - right);
        } else if (op == LESS) {
            assign(v, FLAG_SORT, left < right ? 1 : 0);
        } else {
            assign(v, FLAG_SORT, leftSort == rightSort && left == right ? 1 : 0);
        }
    }
}
