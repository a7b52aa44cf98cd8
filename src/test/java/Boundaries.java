import java.lang.reflect.InvocationTargetException;
import java.lang.reflect.Method;
import java.util.Arrays;
import java.util.Comparator;
import java.util.List;

// What the boundary tests share: they are run once with each threshold, as no sentence depends on it.
abstract class Boundaries {
    static final int LET = TypedTraces.LET;
    static final int FLAG = TypedTraces.FLAG;
    static final int VOID = TypedTraces.VOID;
    static final int MOVE = TypedTraces.MOVE;
    static final int ADD = TypedTraces.ADD;
    static final int SUB = TypedTraces.SUB;
    static final int LESS = TypedTraces.LESS;
    static final int SAME = TypedTraces.SAME;
    static final int UNLESS = TypedTraces.UNLESS;
    static final int JUMP = TypedTraces.JUMP;
    static final int PRINT = TypedTraces.PRINT;
    static final int READY = TypedTraces.READY;
    static final int ENDED = TypedTraces.ENDED;
    static final int FAULT = TypedTraces.FAULT;
    static final int BAD = TypedTraces.BAD;
    static final int FULL = TypedTraces.FULL;

    static final int MIN = Integer.MIN_VALUE;
    static final int MAX = Integer.MAX_VALUE;
    // The nearest on both sides, the farthest, and those that look like a variable or a target if bits are lost.
    static final int[] NO_VARIABLES = {-1, 6, 7, 8, 23, 24, 256, 65536, -65536, MIN, MAX};
    static final int[] NO_TARGETS = {-1, 24, 25, 32, 256, 65536, -65536, MIN, MAX};
    static final int[] NO_OPS = {-1, 11, 12, 16, 256, 65536, -65536, MIN, MAX};

    // Values as the op and the n of the instruction that makes them.
    static final int[] NOTHING = {VOID, 0};
    static final int[] FALSE = {FLAG, 0};
    static final int[] TRUE = {FLAG, 1};

    private static final int CALLS_TOLD = 40;

    private static String running = "";
    private static int wrong = 0;

    static void runAll(Class<?> tests) throws IllegalAccessException {
        Method[] methods = tests.getDeclaredMethods();
        Arrays.sort(methods, Comparator.comparing(Method::getName));
        int ran = 0;
        for (Method each : methods) {
            Sentence sentence = each.getAnnotation(Sentence.class);
            if (sentence == null) {
                continue;
            }
            running = each.getName() + ", " + sentence.in() + " \"" + sentence.words() + "\"";
            for (int threshold = 1; threshold <= 5; threshold++) {
                runOne(each, threshold);
            }
            ran++;
        }
        if (wrong != 0 || ran == 0) {
            System.out.println(wrong + " answers are not as due in " + ran + " tests");
            System.exit(1);
        }
        System.out.println("all answers are as due in " + ran + " tests");
    }

    // A call that throws ends its own test alone, so that the others still tell what they find.
    private static void runOne(Method test, int threshold) throws IllegalAccessException {
        try {
            test.invoke(null, threshold);
        } catch (InvocationTargetException thrown) {
            tell("thrown was " + thrown.getCause());
        }
    }

    private static void tell(String found) {
        wrong++;
        System.out.println(running + ":");
        List<String> calls = Machine.latestCalls();
        for (int i = Math.max(0, calls.size() - CALLS_TOLD); i < calls.size(); i++) {
            System.out.println("    " + calls.get(i));
        }
        System.out.println("  " + found);
    }

    static void due(Object got, Object want) {
        if (!got.equals(want)) {
            tell("found " + got + ", due is " + want);
        }
    }

    static void due(long got, long want) {
        due((Object) got, (Object) want);
    }

    static void due(boolean got, boolean want) {
        due((Object) got, (Object) want);
    }

    static void dueVariable(Machine m, int v, int sort, int value) {
        due(m.sort(v), sort);
        due(m.value(v), value);
    }

    static int[] intOf(int n) {
        return new int[] {LET, n};
    }

    static int emitValue(Machine m, int v, int[] value) {
        return m.emit(value[0], v, value[1], 0);
    }

    static boolean hasThreeOperands(int op) {
        return op == ADD || op == SUB || op == LESS || op == SAME;
    }

    // A loop that counts variable 0 up to 10 and prints each number: eight instructions, 53 steps with the one to come,
    // which is the caller's to choose. All three sorts are in the variables at the end.
    static Machine counting(int threshold) {
        Machine m = new Machine(threshold);
        m.emit(LET, 0, 0, 0);
        m.emit(LET, 1, 1, 0);
        m.emit(LET, 2, 10, 0);
        m.emit(ADD, 0, 0, 1);
        m.emit(PRINT, 0, 0, 0);
        m.emit(LESS, 3, 0, 2);
        m.emit(UNLESS, 3, 8, 0);
        m.emit(JUMP, 3, 0, 0);
        return m;
    }

    static Machine amidTheLoop(int threshold) {
        Machine m = counting(threshold);
        due(m.run(41), READY);
        return m;
    }

    static Machine ended(int threshold) {
        Machine m = counting(threshold);
        due(m.run(300), ENDED);
        return m;
    }

    static Machine faulted(int threshold) {
        Machine m = counting(threshold);
        m.emit(LESS, 5, 3, 3);
        due(m.run(300), FAULT);
        return m;
    }

    static void fill(Machine m) {
        for (int i = 0; i < 24; i++) {
            m.emit(VOID, 5, 0, 0);
        }
        due(m.emit(VOID, 5, 0, 0), FULL);
    }
}
