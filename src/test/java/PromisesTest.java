// One method for each promise of the document: ordinary inputs, the edges it names, and wrong inputs.
public final class PromisesTest {
    private static final int MIN = Integer.MIN_VALUE;
    private static final int MAX = Integer.MAX_VALUE;
    private static final int[] NO_VARIABLES = {-1, 6, 7, MIN, MAX};
    private static final int[] NO_TARGETS = {-1, 24, 25, MIN, MAX};

    private static int promise = 0;
    private static int wrong = 0;

    public static void main(String[] args) {
        newObject();
        emit();
        emitTestsOrderAndOperands();
        replace();
        replaceRefuses();
        restart();
        put();
        run();
        runExecutesEachInstruction();
        runFaults();
        status();
        place();
        count();
        sort();
        value();
        printed();
        output();
        orderAndLimits();
        System.out.println(wrong == 0 ? "all answers are as due" : wrong + " answers are not as due");
        if (wrong != 0) {
            System.exit(1);
        }
    }

    private static void due(String call, long got, long want) {
        if (got != want) {
            wrong++;
            System.out.println("promise " + promise + ": " + call + " answered " + got + ", due is " + want);
        }
    }

    private static void due(String call, boolean got, boolean want) {
        due(call, got ? 1 : 0, want ? 1 : 0);
    }

    private static void dueBeginning(String when, TypedTraces x) {
        due(when + " status()", x.status(), TypedTraces.READY);
        due(when + " place()", x.place(), 0);
        due(when + " count()", x.count(), 0);
        due(when + " printed()", x.printed(), 0);
        due(when + " output(0)", x.output(0), -1);
        for (int v = 0; v < 6; v++) {
            due(when + " sort(" + v + ")", x.sort(v), 0);
            due(when + " value(" + v + ")", x.value(v), 0);
        }
    }

    // Counts variable 0 up to 10, prints each number and at last the flag that ended the loop.
    private static TypedTraces counting(int threshold) {
        TypedTraces x = new TypedTraces(threshold);
        x.emit(TypedTraces.LET, 0, 0, 0);
        x.emit(TypedTraces.LET, 1, 1, 0);
        x.emit(TypedTraces.LET, 2, 10, 0);
        x.emit(TypedTraces.ADD, 0, 0, 1);
        x.emit(TypedTraces.PRINT, 0, 0, 0);
        x.emit(TypedTraces.LESS, 3, 0, 2);
        x.emit(TypedTraces.UNLESS, 3, 8, 0);
        x.emit(TypedTraces.JUMP, 3, 0, 0);
        x.emit(TypedTraces.PRINT, 3, 0, 0);
        return x;
    }

    private static void newObject() {
        promise = 1;
        int[] thresholds = {MIN, -1, 0, 1, 2, 3, 4, 5, 6, 100, MAX};
        for (int threshold : thresholds) {
            String when = "new TypedTraces(" + threshold + ")";
            TypedTraces x = new TypedTraces(threshold);
            dueBeginning(when, x);
            due(when + " run(1)", x.run(1), TypedTraces.ENDED);
            due(when + " emit", x.emit(TypedTraces.LET, 0, 0, 0), 1);
            TypedTraces y = counting(threshold);
            due(when + " run(300)", y.run(300), TypedTraces.ENDED);
            due(when + " count()", y.count(), 53);
            due(when + " printed()", y.printed(), 11);
            due(when + " output(9)", y.output(9), 41);
        }
    }

    private static void emit() {
        promise = 2;
        TypedTraces x = new TypedTraces(1);
        for (int i = 1; i <= 24; i++) {
            due("emit number " + i, x.emit(TypedTraces.PRINT, 0, 0, 0), i);
        }
        due("emit number 25", x.emit(TypedTraces.PRINT, 0, 0, 0), TypedTraces.FULL);
        due("emit of no op when full", x.emit(99, -1, -1, -1), TypedTraces.FULL);
        dueBeginning("after emit", x);
        due("run(300)", x.run(300), TypedTraces.ENDED);
        due("place()", x.place(), 24);

        TypedTraces y = new TypedTraces(1);
        y.put(3, 7);
        y.run(1);
        due("emit after the end", y.emit(TypedTraces.PRINT, 3, 0, 0), 1);
        due("status() after emit", y.status(), TypedTraces.ENDED);
        due("value(3) after emit", y.value(3), 7);
        due("run(1) after emit", y.run(1), TypedTraces.ENDED);
        due("printed() after emit", y.printed(), 0);
    }

    private static void emitTestsOrderAndOperands() {
        TypedTraces x = new TypedTraces(1);
        int[] noOps = {-1, 11, MIN, MAX};
        for (int op : noOps) {
            due("emit(" + op + ")", x.emit(op, 0, 0, 0), TypedTraces.BAD);
        }
        for (int v : NO_VARIABLES) {
            for (int op = TypedTraces.LET; op <= TypedTraces.PRINT; op++) {
                if (op != TypedTraces.JUMP) {
                    due("emit(" + op + ", " + v + ", 0, 0)", x.emit(op, v, 0, 0), TypedTraces.BAD);
                }
            }
            for (int op = TypedTraces.MOVE; op <= TypedTraces.SAME; op++) {
                due("emit(" + op + ", 0, " + v + ", 0)", x.emit(op, 0, v, 0), TypedTraces.BAD);
            }
            for (int op = TypedTraces.ADD; op <= TypedTraces.SAME; op++) {
                due("emit(" + op + ", 0, 0, " + v + ")", x.emit(op, 0, 0, v), TypedTraces.BAD);
            }
        }
        for (int t : NO_TARGETS) {
            due("emit(UNLESS, 0, " + t + ", 0)", x.emit(TypedTraces.UNLESS, 0, t, 0), TypedTraces.BAD);
            due("emit(JUMP, " + t + ", 0, 0)", x.emit(TypedTraces.JUMP, t, 0, 0), TypedTraces.BAD);
        }
        due("emit(LET, 5, MIN, MAX)", x.emit(TypedTraces.LET, 5, MIN, MAX), 1);
        due("emit(FLAG, 5, MAX, MIN)", x.emit(TypedTraces.FLAG, 5, MAX, MIN), 2);
        due("emit(VOID, 5, 99, -99)", x.emit(TypedTraces.VOID, 5, 99, -99), 3);
        due("emit(MOVE, 5, 5, 99)", x.emit(TypedTraces.MOVE, 5, 5, 99), 4);
        due("emit(SAME, 5, 5, 5)", x.emit(TypedTraces.SAME, 5, 5, 5), 5);
        due("emit(UNLESS, 5, 23, 99)", x.emit(TypedTraces.UNLESS, 5, 23, 99), 6);
        due("emit(JUMP, 23, -9, -9)", x.emit(TypedTraces.JUMP, 23, -9, -9), 7);
        due("emit(PRINT, 5, -9, -9)", x.emit(TypedTraces.PRINT, 5, -9, -9), 8);
    }

    private static void replace() {
        promise = 3;
        TypedTraces x = counting(1);
        x.run(300);
        due("replace(2, LET, 2, 3)", x.replace(2, TypedTraces.LET, 2, 3), 2);
        due("status() after replace", x.status(), TypedTraces.ENDED);
        due("value(2) after replace", x.value(2), 10);
        due("count() after replace", x.count(), 53);
        x.restart();
        due("run(300) after replace", x.run(300), TypedTraces.ENDED);
        due("printed() after replace", x.printed(), 4);

        // The loop is hot by now: what replaces a part of it must be what runs.
        due("replace(4, VOID, 4, 0)", x.replace(4, TypedTraces.VOID, 4, 0), 4);
        x.restart();
        due("run(300) without PRINT", x.run(300), TypedTraces.ENDED);
        due("printed() without PRINT", x.printed(), 1);
        due("count() without PRINT", x.count(), 18);
        due("replace(7, JUMP, 8, 99)", x.replace(7, TypedTraces.JUMP, 8, 99), 7);
        x.restart();
        due("run(300) without the loop", x.run(300), TypedTraces.ENDED);
        due("output(0) without the loop", x.output(0), 6);

        TypedTraces y = counting(1);
        y.run(25);
        due("place() amid the loop", y.place(), 5);
        due("replace(7, JUMP, 4, 0) amid the loop", y.replace(7, TypedTraces.JUMP, 4, 0), 7);
        due("place() after replace", y.place(), 5);
        due("run(300) amid the loop", y.run(300), TypedTraces.READY);
        due("value(0) stands still", y.value(0), 5);
        due("printed() goes on", y.printed(), 80);
    }

    private static void replaceRefuses() {
        TypedTraces x = counting(1);
        int[] noInstructions = {-1, 9, 23, 24, MIN, MAX};
        for (int i : noInstructions) {
            due("replace(" + i + ", LET, 0, 0)", x.replace(i, TypedTraces.LET, 0, 0), TypedTraces.BAD);
        }
        int[] noOps = {-1, 11, MIN, MAX};
        for (int op : noOps) {
            due("replace(0, " + op + ", 0, 0)", x.replace(0, op, 0, 0), TypedTraces.BAD);
        }
        for (int op = TypedTraces.ADD; op <= TypedTraces.SAME; op++) {
            due("replace(0, " + op + ", 0, 0)", x.replace(0, op, 0, 0), TypedTraces.BAD);
            TypedTraces y = new TypedTraces(1);
            y.emit(op, 0, 0, 0);
            due("replace of " + op, y.replace(0, TypedTraces.LET, 0, 0), TypedTraces.BAD);
        }
        int[] allowed = {TypedTraces.LET, TypedTraces.FLAG, TypedTraces.VOID, TypedTraces.MOVE, TypedTraces.UNLESS,
            TypedTraces.PRINT};
        for (int v : NO_VARIABLES) {
            for (int op : allowed) {
                due("replace(0, " + op + ", " + v + ", 0)", x.replace(0, op, v, 0), TypedTraces.BAD);
            }
            due("replace(0, MOVE, 0, " + v + ")", x.replace(0, TypedTraces.MOVE, 0, v), TypedTraces.BAD);
        }
        for (int t : NO_TARGETS) {
            due("replace(0, UNLESS, 0, " + t + ")", x.replace(0, TypedTraces.UNLESS, 0, t), TypedTraces.BAD);
            due("replace(0, JUMP, " + t + ", 0)", x.replace(0, TypedTraces.JUMP, t, 0), TypedTraces.BAD);
        }
        due("run(300) after refusals", x.run(300), TypedTraces.ENDED);
        due("count() after refusals", x.count(), 53);
        for (int op : allowed) {
            due("replace(8, " + op + ", 5, 5)", x.replace(8, op, 5, 5), 8);
        }
        due("replace(8, JUMP, 23, MAX)", x.replace(8, TypedTraces.JUMP, 23, MAX), 8);
        due("replace(8, LET, 0, MIN)", x.replace(8, TypedTraces.LET, 0, MIN), 8);
        due("replace(8, FLAG, 0, MAX)", x.replace(8, TypedTraces.FLAG, 0, MAX), 8);
        due("replace(8, VOID, 0, -1)", x.replace(8, TypedTraces.VOID, 0, -1), 8);
        due("replace(8, PRINT, 0, -1)", x.replace(8, TypedTraces.PRINT, 0, -1), 8);
    }

    private static void restart() {
        promise = 4;
        TypedTraces x = counting(2);
        x.run(40);
        x.restart();
        dueBeginning("restart amid the run", x);
        x.run(300);
        x.restart();
        dueBeginning("restart after the end", x);
        due("run(300) again", x.run(300), TypedTraces.ENDED);
        due("count() again", x.count(), 53);
        due("output(10) again", x.output(10), 2);

        TypedTraces y = new TypedTraces(1);
        y.emit(TypedTraces.SUB, 0, 0, 0);
        y.run(1);
        y.put(5, -1);
        y.restart();
        dueBeginning("restart after FAULT", y);
    }

    private static void put() {
        promise = 5;
        TypedTraces x = new TypedTraces(1);
        for (int v : NO_VARIABLES) {
            due("put(" + v + ", 1)", x.put(v, 1), false);
        }
        dueBeginning("after refused puts", x);
        int[] values = {0, 1, -1, MIN, MAX};
        for (int v = 0; v < 6; v++) {
            for (int value : values) {
                due("put(" + v + ", " + value + ")", x.put(v, value), true);
                due("sort(" + v + ")", x.sort(v), 1);
                due("value(" + v + ")", x.value(v), value);
            }
        }
        x.emit(TypedTraces.FLAG, 2, 1, 0);
        x.emit(TypedTraces.SUB, 0, 2, 2);
        due("run(300)", x.run(300), TypedTraces.FAULT);
        due("put(2, 8)", x.put(2, 8), true);
        due("sort(2)", x.sort(2), 1);
        due("value(2)", x.value(2), 8);
        due("status() after put", x.status(), TypedTraces.FAULT);
        due("place() after put", x.place(), 1);
    }

    private static void run() {
        promise = 6;
        int[] noSteps = {0, -1, MIN};
        int[] mostSteps = {300, 301, MAX};
        for (int n : noSteps) {
            TypedTraces x = counting(1);
            due("run(" + n + ")", x.run(n), TypedTraces.READY);
            due("count() after run(" + n + ")", x.count(), 0);
            TypedTraces none = new TypedTraces(1);
            due("run(" + n + ") of no program", none.run(n), TypedTraces.READY);
        }
        for (int n : mostSteps) {
            TypedTraces x = new TypedTraces(1);
            x.emit(TypedTraces.LET, 0, 0, 0);
            x.emit(TypedTraces.PRINT, 0, 0, 0);
            x.emit(TypedTraces.JUMP, 1, 0, 0);
            due("run(" + n + ")", x.run(n), TypedTraces.READY);
            due("count() after run(" + n + ")", x.count(), 300);
            due("place() after run(" + n + ")", x.place(), 2);
            due("printed() after run(" + n + ")", x.printed(), 150);
        }
        // Becoming ENDED takes a step of its own.
        TypedTraces x = counting(1);
        due("run(53)", x.run(53), TypedTraces.READY);
        due("place()", x.place(), 9);
        due("run(1)", x.run(1), TypedTraces.ENDED);
        due("run(300) after the end", x.run(300), TypedTraces.ENDED);
        due("count()", x.count(), 53);

        TypedTraces single = counting(1);
        for (int i = 1; i <= 53; i++) {
            due("run(1) number " + i, single.run(1), TypedTraces.READY);
            due("count() after run(1) number " + i, single.count(), i);
        }
        due("run(1) number 54", single.run(1), TypedTraces.ENDED);
    }

    // Runs the one instruction with variable 1 and 2 as the two instructions before make them.
    private static TypedTraces ran(int firstOp, int first, int secondOp, int second, int op) {
        TypedTraces x = new TypedTraces(1);
        x.emit(firstOp, 1, first, 0);
        x.emit(secondOp, 2, second, 0);
        x.emit(op, 3, 1, 2);
        x.run(3);
        return x;
    }

    private static void dueResult(TypedTraces x, String call, int sort, int value) {
        due(call + ": status()", x.status(), TypedTraces.READY);
        due(call + ": sort(3)", x.sort(3), sort);
        due(call + ": value(3)", x.value(3), value);
        due(call + ": place()", x.place(), 3);
        due(call + ": count()", x.count(), 3);
    }

    private static void runExecutesEachInstruction() {
        int let = TypedTraces.LET;
        int flag = TypedTraces.FLAG;
        int none = TypedTraces.VOID;
        dueResult(ran(let, 5, let, 7, TypedTraces.ADD), "5 + 7", 1, 12);
        dueResult(ran(let, MAX, let, 1, TypedTraces.ADD), "MAX + 1", 1, MIN);
        dueResult(ran(let, MIN, let, 1, TypedTraces.SUB), "MIN - 1", 1, MAX);
        dueResult(ran(let, 5, let, 7, TypedTraces.SUB), "5 - 7", 1, -2);
        for (int a = 0; a <= 1; a++) {
            for (int b = 0; b <= 1; b++) {
                dueResult(ran(flag, a, flag, b, TypedTraces.ADD), "ADD of flags", 2, a | b);
                dueResult(ran(flag, a, flag, b, TypedTraces.SAME), "SAME of flags", 2, a == b ? 1 : 0);
            }
        }
        dueResult(ran(flag, -9, flag, MIN, TypedTraces.SAME), "FLAG of any n but 0", 2, 1);
        dueResult(ran(let, 5, let, 7, TypedTraces.LESS), "5 < 7", 2, 1);
        dueResult(ran(let, 7, let, 7, TypedTraces.LESS), "7 < 7", 2, 0);
        dueResult(ran(let, 7, let, 5, TypedTraces.LESS), "7 < 5", 2, 0);
        dueResult(ran(let, MIN, let, MAX, TypedTraces.LESS), "MIN < MAX", 2, 1);
        dueResult(ran(let, 7, let, 7, TypedTraces.SAME), "SAME 7 7", 2, 1);
        dueResult(ran(let, 7, let, 6, TypedTraces.SAME), "SAME 7 6", 2, 0);
        dueResult(ran(none, 0, none, 0, TypedTraces.SAME), "SAME of nothings", 2, 1);
        dueResult(ran(let, 1, flag, 1, TypedTraces.SAME), "SAME 1 true", 2, 0);
        dueResult(ran(let, 0, none, 0, TypedTraces.SAME), "SAME 0 nothing", 2, 0);
        dueResult(ran(flag, 0, none, 0, TypedTraces.SAME), "SAME false nothing", 2, 0);
        dueResult(ran(let, -4, none, 0, TypedTraces.MOVE), "MOVE of an int", 1, -4);
        dueResult(ran(flag, 3, none, 0, TypedTraces.MOVE), "MOVE of a flag", 2, 1);
        dueResult(ran(none, 3, none, 0, TypedTraces.MOVE), "MOVE of nothing", 0, 0);

        int[][] jumps = {{let, 0, 2}, {let, 1, 2}, {flag, 0, 23}, {flag, 5, 2}, {none, 5, 23}};
        for (int[] jump : jumps) {
            TypedTraces x = new TypedTraces(1);
            x.emit(jump[0], 4, jump[1], 0);
            x.emit(TypedTraces.UNLESS, 4, 23, 0);
            due("run(2)", x.run(2), TypedTraces.READY);
            due("UNLESS after op " + jump[0] + " " + jump[1], x.place(), jump[2]);
            due("run(1)", x.run(1), TypedTraces.ENDED);
        }
    }

    private static void runFaults() {
        int[][] pairs = {
            {TypedTraces.LET, TypedTraces.FLAG}, {TypedTraces.FLAG, TypedTraces.LET},
            {TypedTraces.LET, TypedTraces.VOID}, {TypedTraces.VOID, TypedTraces.LET},
            {TypedTraces.FLAG, TypedTraces.VOID}, {TypedTraces.VOID, TypedTraces.FLAG},
            {TypedTraces.VOID, TypedTraces.VOID}, {TypedTraces.FLAG, TypedTraces.FLAG}};
        for (int[] pair : pairs) {
            for (int op = TypedTraces.ADD; op <= TypedTraces.LESS; op++) {
                if (op == TypedTraces.ADD && pair[0] == TypedTraces.FLAG && pair[1] == TypedTraces.FLAG) {
                    continue;
                }
                TypedTraces x = ran(pair[0], 1, pair[1], 1, op);
                String call = "op " + op + " after " + pair[0] + " and " + pair[1];
                due(call + ": status()", x.status(), TypedTraces.FAULT);
                due(call + ": place()", x.place(), 2);
                due(call + ": count()", x.count(), 2);
                due(call + ": sort(3)", x.sort(3), 0);
                due(call + ": run(300)", x.run(300), TypedTraces.FAULT);
                due(call + ": count() later", x.count(), 2);
            }
        }
    }

    private static void status() {
        promise = 7;
        TypedTraces x = counting(3);
        due("status()", x.status(), TypedTraces.READY);
        x.run(53);
        due("status() before the end", x.status(), TypedTraces.READY);
        x.run(1);
        due("status() at the end", x.status(), TypedTraces.ENDED);
        // A loop that is hot with ints must still see the FAULT when a flag comes.
        TypedTraces y = new TypedTraces(1);
        y.emit(TypedTraces.ADD, 0, 0, 1);
        y.emit(TypedTraces.MOVE, 1, 2, 0);
        y.emit(TypedTraces.JUMP, 0, 0, 0);
        y.put(0, 1);
        y.put(1, 1);
        y.put(2, 1);
        due("run(300)", y.run(300), TypedTraces.READY);
        due("value(0)", y.value(0), 101);
        y.replace(1, TypedTraces.FLAG, 1, 1);
        due("run(300) with a flag", y.run(300), TypedTraces.FAULT);
        due("status() with a flag", y.status(), TypedTraces.FAULT);
        due("value(0) with a flag", y.value(0), 102);
        due("place() with a flag", y.place(), 0);
    }

    private static void place() {
        promise = 8;
        int[] places = {0, 1, 2, 3, 4, 5, 6, 7, 3, 4, 5, 6, 7, 3, 4, 5, 6, 7, 3, 4, 5, 6, 7};
        for (int n = 0; n < places.length; n++) {
            TypedTraces x = counting(1);
            x.run(n);
            due("place() after run(" + n + ")", x.place(), places[n]);
        }
        TypedTraces y = new TypedTraces(1);
        y.emit(TypedTraces.JUMP, 17, 0, 0);
        due("run(300)", y.run(300), TypedTraces.ENDED);
        due("place() where no instruction is", y.place(), 17);
    }

    private static void count() {
        promise = 9;
        TypedTraces x = new TypedTraces(1);
        x.emit(TypedTraces.JUMP, 0, 0, 0);
        int all = 0;
        for (int n = 0; n <= 300; n += 25) {
            x.run(n);
            all += n;
            due("count() after run(" + n + ")", x.count(), all);
        }
        x.restart();
        due("count() after restart", x.count(), 0);
        x.run(7);
        due("count() after run(7)", x.count(), 7);
    }

    private static void sort() {
        promise = 10;
        TypedTraces x = new TypedTraces(1);
        x.emit(TypedTraces.LET, 0, 0, 0);
        x.emit(TypedTraces.FLAG, 1, 0, 0);
        x.emit(TypedTraces.FLAG, 5, 1, 0);
        x.emit(TypedTraces.VOID, 0, 0, 0);
        x.run(3);
        int[] sorts = {1, 2, 0, 0, 0, 2};
        for (int v = 0; v < 6; v++) {
            due("sort(" + v + ")", x.sort(v), sorts[v]);
        }
        x.run(1);
        due("sort(0) after VOID", x.sort(0), 0);
        for (int v : NO_VARIABLES) {
            due("sort(" + v + ")", x.sort(v), TypedTraces.BAD);
        }
    }

    private static void value() {
        promise = 11;
        TypedTraces x = new TypedTraces(1);
        x.emit(TypedTraces.LET, 0, MIN, 0);
        x.emit(TypedTraces.FLAG, 1, 77, 0);
        x.emit(TypedTraces.FLAG, 2, 0, 0);
        x.emit(TypedTraces.LET, 3, 9, 0);
        x.emit(TypedTraces.VOID, 3, 0, 0);
        x.emit(TypedTraces.LET, 5, MAX, 0);
        x.run(6);
        int[] values = {MIN, 1, 0, 0, 0, MAX};
        for (int v = 0; v < 6; v++) {
            due("value(" + v + ")", x.value(v), values[v]);
        }
        for (int v : NO_VARIABLES) {
            due("value(" + v + ")", x.value(v), 0);
        }
    }

    private static void printed() {
        promise = 12;
        TypedTraces x = new TypedTraces(1);
        x.emit(TypedTraces.PRINT, 0, 0, 0);
        x.emit(TypedTraces.JUMP, 0, 0, 0);
        due("printed()", x.printed(), 0);
        for (int i = 1; i <= 60; i++) {
            x.run(2);
            due("printed() after PRINT number " + i, x.printed(), i);
        }
        x.restart();
        due("printed() after restart", x.printed(), 0);
    }

    private static void output() {
        promise = 13;
        TypedTraces x = new TypedTraces(2);
        x.emit(TypedTraces.PRINT, 0, 0, 0);
        x.emit(TypedTraces.FLAG, 0, 0, 0);
        x.emit(TypedTraces.PRINT, 0, 0, 0);
        x.emit(TypedTraces.FLAG, 0, 2, 0);
        x.emit(TypedTraces.PRINT, 0, 0, 0);
        x.emit(TypedTraces.LET, 0, MAX, 0);
        x.emit(TypedTraces.PRINT, 0, 0, 0);
        x.emit(TypedTraces.LET, 0, MIN, 0);
        x.emit(TypedTraces.PRINT, 0, 0, 0);
        x.emit(TypedTraces.LET, 0, -1, 0);
        x.emit(TypedTraces.PRINT, 0, 0, 0);
        x.run(300);
        long[] outputs = {0, 2, 6, 4L * MAX + 1, 4L * MIN + 1, -3};
        for (int k = 0; k < outputs.length; k++) {
            due("output(" + k + ")", x.output(k), outputs[k]);
        }
        int[] outside = {-1, 6, 23, 24, MIN, MAX};
        for (int k : outside) {
            due("output(" + k + ")", x.output(k), -1);
        }
        x.restart();
        due("output(0) after restart", x.output(0), -1);
    }

    private static void orderAndLimits() {
        promise = 14;
        TypedTraces x = new TypedTraces(3);
        x.emit(TypedTraces.ADD, 0, 0, 1);
        x.emit(TypedTraces.PRINT, 0, 0, 0);
        x.emit(TypedTraces.JUMP, 0, 0, 0);
        x.put(0, 0);
        x.put(1, 1);
        x.run(72);
        due("printed()", x.printed(), 24);
        due("output(23)", x.output(23), 97);
        x.run(3);
        due("printed()", x.printed(), 25);
        x.run(300);
        due("printed()", x.printed(), 125);
        for (int k = 0; k < 24; k++) {
            due("output(" + k + ")", x.output(k), 4L * (k + 1) + 1);
        }
        due("output(24)", x.output(24), -1);
        due("output(124)", x.output(124), -1);
        x.put(1, -1000);
        due("value(1)", x.value(1), -1000);
        x.run(3);
        due("value(0) after put", x.value(0), -875);
        x.restart();
        due("printed() after restart", x.printed(), 0);
        due("output(0) after restart", x.output(0), -1);
    }
}
