import java.lang.reflect.Field;

// "... whose hot loops are recorded and compiled", and "threshold, clamped into 1..5": no answer shows these, so this
// test looks inside the object. How the state is held is free, and so a class that holds its traces in other fields
// than these is not looked at here.
public final class TracesTest {
    private static final int LET = TypedTraces.LET;
    private static final int ADD = TypedTraces.ADD;
    private static final int UNLESS = TypedTraces.UNLESS;
    private static final int JUMP = TypedTraces.JUMP;
    private static final int PRINT = TypedTraces.PRINT;

    private static final int TURN = 4;
    private static final int[] THRESHOLDS = {Integer.MIN_VALUE, -1, 0, 1, 2, 3, 4, 5, 6, Integer.MAX_VALUE};

    private static int wrong = 0;

    public static void main(String[] args) throws IllegalAccessException {
        Field turnSteps = field("turnSteps");
        Field codeV = field("codeV");
        Field codeA = field("codeA");
        if (turnSteps == null || codeV == null || codeA == null) {
            System.out.println("the class holds its traces, if any, in other fields: nothing was looked at");
            return;
        }
        for (int threshold : THRESHOLDS) {
            recordedWhenHot(threshold, turnSteps);
            shortLoopsAreRecorded(threshold, turnSteps);
            compiledCodeIsRun(threshold, codeV, codeA);
            replaceDropsTraces(threshold, turnSteps);
        }
        if (wrong != 0) {
            System.exit(1);
        }
        System.out.println("hot loops are recorded and compiled");
    }

    private static Field field(String name) {
        for (Field each : TypedTraces.class.getDeclaredFields()) {
            if (each.getName().equals(name) && each.getType() == int[].class) {
                each.setAccessible(true);
                return each;
            }
        }
        return null;
    }

    private static void due(String what, int threshold, int got, int want) {
        if (got != want) {
            wrong++;
            System.out.println("threshold " + threshold + ": " + what + " is " + got + ", due is " + want);
        }
    }

    // Four steps for each turn, from instruction 0 back to instruction 0.
    private static TypedTraces looping(int threshold) {
        TypedTraces x = new TypedTraces(threshold);
        x.put(0, 0);
        x.put(1, 1);
        x.emit(ADD, 0, 0, 1);
        x.emit(PRINT, 0, 0, 0);
        x.emit(LET, 2, 7, 0);
        x.emit(JUMP, 0, 0, 0);
        return x;
    }

    private static int stepsOfTrace(TypedTraces x, Field turnSteps, int start) throws IllegalAccessException {
        return ((int[]) turnSteps.get(x))[start];
    }

    // The turn that is recorded is the one after as many turns as the threshold says.
    private static void recordedWhenHot(int threshold, Field turnSteps) throws IllegalAccessException {
        int turnsToBeHot = Math.max(1, Math.min(5, threshold));
        for (int turns = 0; turns < 10; turns++) {
            TypedTraces x = looping(threshold);
            x.run(TURN * turns);
            int got = stepsOfTrace(x, turnSteps, 0);
            due("the steps of the trace after " + turns + " turns", threshold, got, turns > turnsToBeHot ? TURN : 0);
        }
    }

    private static void shortLoopsAreRecorded(int threshold, Field turnSteps) throws IllegalAccessException {
        TypedTraces jump = new TypedTraces(threshold);
        jump.emit(JUMP, 0, 0, 0);
        jump.run(300);
        due("the steps of a jump to itself", threshold, stepsOfTrace(jump, turnSteps, 0), 1);

        TypedTraces unless = new TypedTraces(threshold);
        unless.emit(LET, 0, 0, 0);
        unless.emit(UNLESS, 5, 1, 0);
        unless.run(300);
        due("the steps of an UNLESS to itself", threshold, stepsOfTrace(unless, turnSteps, 1), 1);
        due("the steps from where no loop begins", threshold, stepsOfTrace(unless, turnSteps, 0), 0);
    }

    // The compiled LET is changed behind the object's back: only the compiled code, not the instruction, makes a 99.
    private static void compiledCodeIsRun(int threshold, Field codeV, Field codeA) throws IllegalAccessException {
        TypedTraces x = looping(threshold);
        x.run(TURN * 20);
        int[] variables = (int[]) codeV.get(x);
        int[] numbers = (int[]) codeA.get(x);
        for (int c = 0; c < numbers.length; c++) {
            if (variables[c] == 2 && numbers[c] == 7) {
                numbers[c] = 99;
            }
        }
        x.run(TURN);
        due("variable 2 after a turn of the changed trace", threshold, x.value(2), 99);
        // A trace is run as a whole or not at all.
        x.run(TURN - 1);
        due("variable 2 after a part of a turn", threshold, x.value(2), 7);
        x.run(1);
        // Nor is it run with other sorts than those that it was recorded with.
        x.put(3, 0);
        x.run(TURN);
        due("variable 2 after a turn with other sorts", threshold, x.value(2), 7);
    }

    // A trace of the older program must not be run, and the loop is recorded again.
    private static void replaceDropsTraces(int threshold, Field turnSteps) throws IllegalAccessException {
        TypedTraces x = looping(threshold);
        x.run(TURN * 20);
        x.replace(1, PRINT, 1, 0);
        due("the steps of the trace after a replace", threshold, stepsOfTrace(x, turnSteps, 0), 0);
        x.run(TURN * 20);
        due("the steps of the trace recorded after a replace", threshold, stepsOfTrace(x, turnSteps, 0), TURN);
    }
}
