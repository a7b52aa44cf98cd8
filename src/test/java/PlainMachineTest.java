import java.util.ArrayList;
import java.util.List;

// Many runs of calls, drawn by a fixed rule, on objects of every threshold: all must answer as a plain machine that
// follows the document's words step by step and knows of no traces.
public final class PlainMachineTest {
    private static final int OBJECTS = 40000;
    // Nothing is promised after so many calls on one object.
    private static final int MOST_CALLS = 512;
    private static final int CALLS_OF_A_LOOK = 47;
    private static final int[] THRESHOLDS = {1, 2, 3, 4, 5, 0, -7, 6, Integer.MAX_VALUE};
    private static final int[] ODD = {-1, 6, 23, 24, 300, 301, 512, Integer.MIN_VALUE, Integer.MAX_VALUE};

    private static long seed = 20261115;

    // Loops that are hard on traces, each an array of op, x, y, z. Variables 0 to 2 are put to 0, 1 and 10 first.
    private static final int[][][] PROGRAMS = {
        // The sorts go round, so that a turn ends with other sorts than it began with.
        {{1, 3, 1, 0}, {3, 4, 0, 0}, {3, 0, 3, 0}, {3, 3, 5, 0}, {3, 5, 4, 0}, {10, 5, 0, 0}, {9, 1, 0, 0}},
        // Where the loop is left, variable 5 has another sort than at either end of a turn.
        {{0, 5, 7, 0}, {4, 0, 0, 1}, {1, 5, 1, 0}, {6, 3, 0, 2}, {8, 3, 7, 0}, {2, 5, 0, 0}, {9, 0, 0, 0}},
        // The loop is left for the other one while it is recorded, and that one goes on for long.
        {{9, 20, 0, 0}, {4, 0, 0, 1}, {5, 4, 0, 1}, {4, 5, 4, 0}, {3, 4, 5, 0}, {9, 1, 0, 0}, {2, 0, 0, 0},
            {2, 0, 0, 0}, {2, 0, 0, 0}, {2, 0, 0, 0}, {2, 0, 0, 0}, {2, 0, 0, 0}, {2, 0, 0, 0}, {2, 0, 0, 0},
            {2, 0, 0, 0}, {2, 0, 0, 0}, {2, 0, 0, 0}, {2, 0, 0, 0}, {2, 0, 0, 0}, {2, 0, 0, 0}, {4, 0, 0, 1},
            {7, 3, 0, 1}, {8, 3, 1, 0}, {9, 20, 0, 0}},
        // A loop within a loop: the turns of the outer one are of many lengths.
        {{0, 4, 0, 0}, {4, 0, 0, 1}, {4, 4, 4, 1}, {10, 4, 0, 0}, {6, 3, 4, 0}, {8, 3, 7, 0}, {9, 2, 0, 0},
            {6, 3, 0, 2}, {8, 3, 10, 0}, {9, 0, 0, 0}, {10, 3, 0, 0}},
        // The turns of the outer loop are longer than a trace, and the inner loop's trace lies right behind.
        {{0, 4, 0, 0}, {4, 4, 4, 1}, {6, 3, 2, 4}, {8, 3, 1, 0}, {8, 5, 0, 0}},
        // The two ways through the loop take turns.
        {{1, 3, 0, 0}, {1, 4, 1, 0}, {10, 3, 0, 0}, {8, 3, 6, 0}, {1, 3, 0, 0}, {9, 2, 0, 0}, {4, 3, 3, 4},
            {5, 0, 0, 1}, {9, 2, 0, 0}},
        // The ints come to a FAULT in the loop once a flag is moved among them.
        {{4, 0, 0, 1}, {6, 3, 0, 2}, {8, 3, 4, 0}, {9, 0, 0, 0}, {3, 1, 3, 0}, {9, 0, 0, 0}},
        // Nothing but a jump to itself, and the same with UNLESS.
        {{9, 0, 0, 0}},
        {{8, 3, 0, 0}},
    };

    public static void main(String[] args) {
        runPrograms();
        runObjects();
    }

    private static void runPrograms() {
        int[] sizes = {1, 2, 3, 5, 7, 16, 31, 64, 100, 299, 300};
        for (int program = 0; program < PROGRAMS.length; program++) {
            for (int threshold : THRESHOLDS) {
                for (int size : sizes) {
                    String wrong = runProgram(PROGRAMS[program], threshold, size);
                    if (wrong != null) {
                        System.out.println("program " + program + ", threshold " + threshold + ", run(" + size + "): "
                            + wrong);
                        System.exit(1);
                    }
                }
            }
        }
    }

    private static String runProgram(int[][] program, int threshold, int size) {
        TypedTraces x = new TypedTraces(threshold);
        Plain plain = new Plain();
        int[] values = {0, 1, 10};
        for (int v = 0; v < values.length; v++) {
            x.put(v, values[v]);
            plain.put(v, values[v]);
        }
        for (int[] each : program) {
            x.emit(each[0], each[1], each[2], each[3]);
            plain.emit(each[0], each[1], each[2], each[3]);
        }
        int runs = Math.min(150, 1000 / size);
        for (int i = 0; i < runs; i++) {
            int got = x.run(size);
            int want = plain.run(size);
            if (got != want || x.place() != plain.place || (i % 60 == 59 && difference(x, plain) != null)) {
                return "after " + (i + 1) + " runs answered " + got + ", due is " + want + "; " + difference(x, plain);
            }
        }
        return difference(x, plain);
    }

    private static void runObjects() {
        int longRuns = 0;
        for (int object = 0; object < OBJECTS; object++) {
            TypedTraces x = new TypedTraces(THRESHOLDS[object % THRESHOLDS.length]);
            Plain plain = new Plain();
            List<String> calls = new ArrayList<>();
            int seldom = object % 5 == 0 ? 60 : 8;
            String wrong = null;
            int made = 0;
            for (int i = 0; wrong == null && made < MOST_CALLS - 2 * CALLS_OF_A_LOOK; i++) {
                wrong = object % 3 == 0 ? anyCall(x, plain, calls) : loopCall(x, plain, calls, i, object % 3 == 1);
                made++;
                if (wrong == null && below(seldom) == 0) {
                    wrong = difference(x, plain);
                    made += CALLS_OF_A_LOOK;
                }
            }
            if (wrong == null) {
                wrong = difference(x, plain);
            }
            if (wrong != null) {
                calls.forEach(System.out::println);
                System.out.println("object " + object + ": " + wrong);
                System.exit(1);
            }
            longRuns += plain.allSteps > 100 ? 1 : 0;
        }
        if (longRuns < OBJECTS / 5) {
            System.out.println("only " + longRuns + " objects ran a loop for long: the runs test too little");
            System.exit(1);
        }
        System.out.println("all answers are those of the plain machine, " + longRuns + " long loops among them");
    }

    private static int below(int n) {
        seed = seed * 6364136223846793005L + 1442695040888963407L;
        return (int) ((seed >>> 33) % n);
    }

    private static int chosen(int... from) {
        return from[below(from.length)];
    }

    private static int operand(int bound) {
        return below(60) == 0 ? ODD[below(ODD.length)] : below(bound);
    }

    private static String anyCall(TypedTraces x, Plain plain, List<String> calls) {
        switch (below(10)) {
            case 0: case 1: case 2: case 3:
                return emit(x, plain, calls, below(80) == 0 ? ODD[below(ODD.length)] : below(11), 24);
            case 4:
                return replace(x, plain, calls, below(12));
            case 5:
                return below(4) == 0 ? restart(x, plain, calls) : null;
            case 6: case 7:
                return put(x, plain, calls);
            default:
                return run(x, plain, calls);
        }
    }

    // First three ints and two flags, then a program of many loops, then runs with changes now and then in between.
    // The programs without sums never FAULT, and their sorts change more.
    private static String loopCall(TypedTraces x, Plain plain, List<String> calls, int i, boolean sums) {
        if (i < 3) {
            int value = below(9) - 4;
            return same("put(" + i + ", " + value + ")", x.put(i, value), plain.put(i, value), calls);
        }
        if (i < 5) {
            int flag = below(2);
            String call = "emit(1, " + i + ", " + flag + ", 0)";
            return same(call, x.emit(1, i, flag, 0), plain.emit(1, i, flag, 0), calls);
        }
        if (i == 5) {
            return same("run(2)", x.run(2), plain.run(2), calls);
        }
        if (i < 18 && !sums) {
            return emit(x, plain, calls, chosen(0, 1, 2, 3, 3, 3, 7, 7, 8, 8, 9, 10), 14);
        }
        if (i < 18) {
            int op = chosen(0, 1, 2, 3, 3, 4, 4, 4, 5, 5, 6, 6, 7, 7, 8, 8, 8, 9, 9, 10);
            return below(8) == 0 ? emit(x, plain, calls, op, 11) : emitWellSorted(x, plain, calls, op);
        }
        switch (below(12)) {
            case 0:
                return replace(x, plain, calls, chosen(0, 1, 2, 3, 8, 8, 9, 9, 10));
            case 1:
                return restart(x, plain, calls);
            case 2: case 3: case 4:
                return put(x, plain, calls);
            case 5:
                return emit(x, plain, calls, below(11), 16);
            default:
                return run(x, plain, calls);
        }
    }

    private static String same(String call, Object got, Object want, List<String> calls) {
        calls.add(call + " due " + want);
        return got.equals(want) ? null : call + " answered " + got + ", due is " + want;
    }

    private static String emit(TypedTraces x, Plain plain, List<String> calls, int op, int targets) {
        int a = operand(op == 9 ? targets : 6);
        int b = op < 2 ? below(5) - 2 : operand(op == 8 ? targets : 6);
        int c = operand(6);
        String call = "emit(" + op + ", " + a + ", " + b + ", " + c + ")";
        return same(call, x.emit(op, a, b, c), plain.emit(op, a, b, c), calls);
    }

    // Ints stay in the variables 0 to 2 and flags in 3 and 4, so that the loops go on without FAULT.
    private static String emitWellSorted(TypedTraces x, Plain plain, List<String> calls, int op) {
        boolean makesFlag = op == TypedTraces.FLAG || op == TypedTraces.LESS || op == TypedTraces.SAME;
        int a = makesFlag || op == TypedTraces.UNLESS ? 3 + below(2) : below(3);
        int b = below(3);
        int c = below(3);
        if (op == TypedTraces.VOID) {
            a = 5;
        } else if (op == TypedTraces.PRINT) {
            a = below(6);
        } else if (op == TypedTraces.JUMP) {
            a = below(14);
        } else if (op == TypedTraces.UNLESS) {
            b = below(16);
        } else if (op == TypedTraces.ADD && below(4) == 0 && plain.sort(3) == 2 && plain.sort(4) == 2) {
            a = 3 + below(2);
            b = 3 + below(2);
            c = 3 + below(2);
        } else if (op == TypedTraces.SAME && below(2) == 0) {
            b = below(6);
            c = below(6);
        }
        String call = "emit(" + op + ", " + a + ", " + b + ", " + c + ")";
        return same(call, x.emit(op, a, b, c), plain.emit(op, a, b, c), calls);
    }

    private static String replace(TypedTraces x, Plain plain, List<String> calls, int op) {
        int i = operand(12);
        int a = operand(op == 9 ? 12 : 6);
        int b = op < 2 ? below(5) - 2 : operand(op == 8 ? 12 : 6);
        String call = "replace(" + i + ", " + op + ", " + a + ", " + b + ")";
        return same(call, x.replace(i, op, a, b), plain.replace(i, op, a, b), calls);
    }

    private static String restart(TypedTraces x, Plain plain, List<String> calls) {
        x.restart();
        plain.restart();
        calls.add("restart()");
        return null;
    }

    private static String put(TypedTraces x, Plain plain, List<String> calls) {
        int v = operand(6);
        int value = below(10) == 0 ? ODD[below(ODD.length)] : below(30) - 15;
        return same("put(" + v + ", " + value + ")", x.put(v, value), plain.put(v, value), calls);
    }

    private static String run(TypedTraces x, Plain plain, List<String> calls) {
        int n = chosen(1, 2, 3, below(10), below(40), below(300), 300, operand(20));
        return same("run(" + n + ")", x.run(n), plain.run(n), calls);
    }

    private static String difference(TypedTraces x, Plain plain) {
        if (x.status() != plain.status || x.place() != plain.place || x.count() != plain.count) {
            return "status, place, count are " + x.status() + ", " + x.place() + ", " + x.count()
                + ", due are " + plain.status + ", " + plain.place + ", " + plain.count;
        }
        for (int v = -1; v <= 6; v++) {
            if (x.sort(v) != plain.sort(v) || x.value(v) != plain.value(v)) {
                return "sort and value of " + v + " are " + x.sort(v) + ", " + x.value(v)
                    + ", due are " + plain.sort(v) + ", " + plain.value(v);
            }
        }
        if (x.printed() != plain.output.size()) {
            return "printed() is " + x.printed() + ", due is " + plain.output.size();
        }
        for (int k = -1; k <= 25; k++) {
            if (x.output(k) != plain.output(k)) {
                return "output(" + k + ") is " + x.output(k) + ", due is " + plain.output(k);
            }
        }
        return null;
    }

    // A value is an Integer, a Boolean, or null for nothing.
    private static final class Plain {
        final List<int[]> program = new ArrayList<>();
        final Object[] variables = new Object[6];
        final List<Object> output = new ArrayList<>();
        int place = 0;
        int count = 0;
        int allSteps = 0;
        int status = TypedTraces.READY;

        static boolean variable(int v) {
            return 0 <= v && v <= 5;
        }

        static boolean target(int t) {
            return 0 <= t && t <= 23;
        }

        static boolean good(int op, int x, int y, int z) {
            switch (op) {
                case TypedTraces.LET: case TypedTraces.FLAG: case TypedTraces.VOID: case TypedTraces.PRINT:
                    return variable(x);
                case TypedTraces.MOVE:
                    return variable(x) && variable(y);
                case TypedTraces.ADD: case TypedTraces.SUB: case TypedTraces.LESS: case TypedTraces.SAME:
                    return variable(x) && variable(y) && variable(z);
                case TypedTraces.UNLESS:
                    return variable(x) && target(y);
                case TypedTraces.JUMP:
                    return target(x);
                default:
                    return false;
            }
        }

        int emit(int op, int x, int y, int z) {
            if (program.size() == 24) {
                return TypedTraces.FULL;
            }
            if (!good(op, x, y, z)) {
                return TypedTraces.BAD;
            }
            program.add(new int[] {op, x, y, z});
            return program.size();
        }

        int replace(int i, int op, int x, int y) {
            if (i < 0 || i >= program.size() || !good(op, x, y, 0)) {
                return TypedTraces.BAD;
            }
            int old = program.get(i)[0];
            if ((old >= 4 && old <= 7) || (op >= 4 && op <= 7)) {
                return TypedTraces.BAD;
            }
            program.set(i, new int[] {op, x, y, 0});
            return i;
        }

        void restart() {
            java.util.Arrays.fill(variables, null);
            output.clear();
            place = 0;
            count = 0;
            status = TypedTraces.READY;
        }

        boolean put(int v, int value) {
            if (variable(v)) {
                variables[v] = value;
            }
            return variable(v);
        }

        int run(int n) {
            for (int i = 0; i < Math.min(n, 300); i++) {
                step();
            }
            return status;
        }

        void step() {
            if (status != TypedTraces.READY) {
                return;
            }
            if (place >= program.size()) {
                status = TypedTraces.ENDED;
                return;
            }
            int[] now = program.get(place);
            if (now[0] >= TypedTraces.ADD && now[0] <= TypedTraces.SAME) {
                Object result = combined(now[0], variables[now[2]], variables[now[3]]);
                if (result == null) {
                    status = TypedTraces.FAULT;
                    return;
                }
                variables[now[1]] = result;
                place++;
            } else {
                place = simple(now[0], now[1], now[2]);
            }
            count++;
            allSteps++;
        }

        // Answers null where the instruction must FAULT: none of these makes nothing.
        static Object combined(int op, Object a, Object b) {
            if (op == TypedTraces.SAME) {
                return a == null ? b == null : a.equals(b);
            }
            if (a instanceof Integer && b instanceof Integer) {
                int left = (Integer) a;
                int right = (Integer) b;
                if (op == TypedTraces.LESS) {
                    return left < right;
                }
                return op == TypedTraces.ADD ? left + right : left - right;
            }
            if (op == TypedTraces.ADD && a instanceof Boolean && b instanceof Boolean) {
                return (Boolean) a || (Boolean) b;
            }
            return null;
        }

        int simple(int op, int x, int y) {
            if (op == TypedTraces.LET) {
                variables[x] = y;
            } else if (op == TypedTraces.FLAG) {
                variables[x] = y != 0;
            } else if (op == TypedTraces.VOID) {
                variables[x] = null;
            } else if (op == TypedTraces.MOVE) {
                variables[x] = variables[y];
            } else if (op == TypedTraces.PRINT) {
                output.add(variables[x]);
            } else if (op == TypedTraces.JUMP) {
                return x;
            } else if (variables[x] == null || variables[x].equals(false)) {
                return y;
            }
            return place + 1;
        }

        static int sortOf(Object value) {
            return value == null ? 0 : value instanceof Integer ? 1 : 2;
        }

        static int numberOf(Object value) {
            if (value instanceof Integer) {
                return (Integer) value;
            }
            return value != null && value.equals(true) ? 1 : 0;
        }

        int sort(int v) {
            return variable(v) ? sortOf(variables[v]) : TypedTraces.BAD;
        }

        int value(int v) {
            return variable(v) ? numberOf(variables[v]) : 0;
        }

        long output(int k) {
            if (k < 0 || k >= output.size() || k >= 24) {
                return -1;
            }
            Object value = output.get(k);
            return 4L * numberOf(value) + sortOf(value);
        }
    }
}
