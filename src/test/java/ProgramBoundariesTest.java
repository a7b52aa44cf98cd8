// The sentences of promises 2 and 3, on either side of the boundaries that they name.
public final class ProgramBoundariesTest extends Boundaries {
    private static final int[] ANY = {MIN, -1, 0, 5, 6, 23, 24, MAX};
    // All ops that replace may deal with.
    private static final int[] PLAIN_OPS = {LET, FLAG, VOID, MOVE, UNLESS, JUMP, PRINT};

    public static void main(String[] args) throws IllegalAccessException {
        runAll(ProgramBoundariesTest.class);
    }

    @Sentence(in = "Promise 2", words = "Adds an instruction at the end.")
    static void emitAddsAtTheEnd(int threshold) {
        Machine m = new Machine(threshold);
        for (int i = 0; i < 24; i++) {
            m.emit(LET, 0, i, 0);
            m.run(1);
            due(m.value(0), i);
            due(m.place(), i + 1);
        }
    }

    @Sentence(in = "Promise 2", words = "24 instructions are there: FULL.")
    static void fullWith24Instructions(int threshold) {
        Machine m = new Machine(threshold);
        for (int i = 0; i < 23; i++) {
            m.emit(LET, 0, i, 0);
        }
        due(m.emit(LET, 0, 23, 0), 24);
        due(m.emit(LET, 0, 24, 0), FULL);
        due(m.emit(LET, 0, 25, 0), FULL);
        m.restart();
        due(m.emit(LET, 0, 26, 0), FULL);
        due(m.run(300), ENDED);
        due(m.count(), 24);
        due(m.value(0), 23);
        due(m.emit(LET, 0, 27, 0), FULL);
    }

    @Sentence(in = "Promise 2", words = "Tested in this order: 24 instructions are there: FULL. op outside 0..10: BAD.")
    static void fullIsTestedBeforeBad(int threshold) {
        Machine m = new Machine(threshold);
        for (int i = 0; i < 23; i++) {
            m.emit(VOID, 0, 0, 0);
        }
        dueBadEmits(m, BAD);
        due(m.emit(VOID, 0, 0, 0), 24);
        dueBadEmits(m, FULL);
    }

    private static void dueBadEmits(Machine m, int answer) {
        due(m.emit(-1, 0, 0, 0), answer);
        due(m.emit(11, 0, 0, 0), answer);
        due(m.emit(LET, 6, 0, 0), answer);
        due(m.emit(MOVE, 0, -1, 0), answer);
        due(m.emit(ADD, 0, 0, 6), answer);
        due(m.emit(UNLESS, 0, 24, 0), answer);
        due(m.emit(JUMP, -1, 0, 0), answer);
    }

    @Sentence(in = "Promise 2", words = "op outside 0..10: BAD.")
    static void opOutside0To10(int threshold) {
        Machine m = new Machine(threshold);
        for (int op : NO_OPS) {
            due(m.emit(op, 0, 0, 0), BAD);
        }
        for (int op = 0; op <= 10; op++) {
            due(m.emit(op, 0, 0, 0), op + 1);
        }
        for (int op : NO_OPS) {
            due(m.emit(op, 0, 0, 0), BAD);
        }
    }

    @Sentence(in = "Promise 2", words = "For all but JUMP: x (v) outside 0..5")
    static void variableOutside0To5(int threshold) {
        for (int op = 0; op <= 10; op++) {
            if (op == JUMP) {
                continue;
            }
            Machine m = new Machine(threshold);
            for (int v : NO_VARIABLES) {
                due(m.emit(op, v, 0, 0), BAD);
            }
            for (int v = 0; v < 6; v++) {
                due(m.emit(op, v, 0, 0), v + 1);
            }
        }
    }

    @Sentence(in = "Promise 2", words = "for MOVE to SAME: y (a) outside 0..5")
    static void firstOperandOutside0To5(int threshold) {
        for (int op = MOVE; op <= SAME; op++) {
            Machine m = new Machine(threshold);
            for (int a : NO_VARIABLES) {
                due(m.emit(op, 0, a, 0), BAD);
            }
            for (int a = 0; a < 6; a++) {
                due(m.emit(op, 0, a, 0), a + 1);
            }
        }
    }

    @Sentence(in = "Promise 2", words = "for ADD to SAME: z (b) outside 0..5")
    static void secondOperandOutside0To5(int threshold) {
        for (int op = ADD; op <= SAME; op++) {
            Machine m = new Machine(threshold);
            for (int b : NO_VARIABLES) {
                due(m.emit(op, 0, 0, b), BAD);
            }
            for (int b = 0; b < 6; b++) {
                due(m.emit(op, 0, 0, b), b + 1);
            }
        }
    }

    @Sentence(in = "Promise 2", words = "UNLESS: y (t) outside 0..23")
    static void targetOfUnlessOutside0To23(int threshold) {
        Machine m = new Machine(threshold);
        for (int t : NO_TARGETS) {
            due(m.emit(UNLESS, 0, t, 0), BAD);
        }
        // A target needs no instruction there, so all are good from the first emit on.
        due(m.emit(UNLESS, 0, 23, 0), 1);
        for (int t = 0; t < 23; t++) {
            due(m.emit(UNLESS, 5, t, 0), t + 2);
        }
    }

    @Sentence(in = "Promise 2", words = "JUMP: x (t) outside 0..23: BAD")
    static void targetOfJumpOutside0To23(int threshold) {
        Machine m = new Machine(threshold);
        for (int t : NO_TARGETS) {
            due(m.emit(JUMP, t, 0, 0), BAD);
        }
        due(m.emit(JUMP, 23, 0, 0), 1);
        for (int t = 0; t < 23; t++) {
            due(m.emit(JUMP, t, 0, 0), t + 2);
        }
    }

    @Sentence(in = "Promise 2", words = "n is y")
    static void nIsYAndMayBeAnyInt(int threshold) {
        for (int n : ANY) {
            Machine m = new Machine(threshold);
            due(m.emit(LET, 1, n, n == 3 ? 4 : 3), 1);
            due(m.emit(FLAG, 2, n, n == 0 ? 1 : 0), 2);
            due(m.run(2), READY);
            dueVariable(m, 1, 1, n);
            dueVariable(m, 2, 2, n == 0 ? 0 : 1);
        }
    }

    @Sentence(in = "Promise 2", words = "operands that an instruction does not have play no part")
    static void operandsNotHadPlayNoPart(int threshold) {
        for (int any : ANY) {
            for (int other : ANY) {
                dueAsWithout(threshold, new int[] {LET, 2, 8, other}, new int[] {LET, 2, 8, 0});
                dueAsWithout(threshold, new int[] {FLAG, 2, 8, other}, new int[] {FLAG, 2, 8, 0});
                dueAsWithout(threshold, new int[] {VOID, 2, any, other}, new int[] {VOID, 2, 0, 0});
                dueAsWithout(threshold, new int[] {MOVE, 2, 1, other}, new int[] {MOVE, 2, 1, 0});
                dueAsWithout(threshold, new int[] {UNLESS, 2, 7, other}, new int[] {UNLESS, 2, 7, 0});
                dueAsWithout(threshold, new int[] {JUMP, 7, any, other}, new int[] {JUMP, 7, 0, 0});
                dueAsWithout(threshold, new int[] {PRINT, 2, any, other}, new int[] {PRINT, 2, 0, 0});
            }
        }
    }

    private static void dueAsWithout(int threshold, int[] with, int[] without) {
        Machine got = new Machine(threshold);
        Machine want = new Machine(threshold);
        got.put(1, 7);
        want.put(1, 7);
        due(want.emit(without[0], without[1], without[2], without[3]), 1);
        due(got.emit(with[0], with[1], with[2], with[3]), 1);
        due(got.run(1), want.run(1));
        due(got.look(), want.look());
    }

    @Sentence(in = "Promise 2", words = "Else answers the new number of instructions.")
    static void emitAnswersTheNewNumber(int threshold) {
        Machine m = new Machine(threshold);
        int[] ops = {LET, FLAG, VOID, MOVE, ADD, SUB, LESS, SAME, UNLESS, JUMP, PRINT};
        for (int i = 1; i <= 24; i++) {
            // What is refused in between does not count.
            due(m.emit(11, 0, 0, 0), BAD);
            due(m.emit(ADD, 0, 0, 6), BAD);
            due(m.emit(ops[i % ops.length], 0, 0, 0), i);
            due(m.replace(i, LET, 0, 0), BAD);
        }
    }

    @Sentence(in = "Promise 2", words = "The machine stays as it is.")
    static void emitLeavesTheMachine(int threshold) {
        dueEmitsLeave(new Machine(threshold));
        dueEmitsLeave(amidTheLoop(threshold));
        dueEmitsLeave(ended(threshold));
        dueEmitsLeave(faulted(threshold));
    }

    private static void dueEmitsLeave(Machine m) {
        String before = m.look();
        due(m.emit(-1, 0, 0, 0), BAD);
        due(m.emit(LET, 6, 1, 0), BAD);
        due(m.look(), before);
        for (int op = 0; op <= 10; op++) {
            m.emit(op, 0, 0, 0);
        }
        due(m.look(), before);
        fill(m);
        due(m.emit(LET, 0, 99, 0), FULL);
        due(m.look(), before);
    }

    @Sentence(in = "Promise 3", words = "Replaces instruction i")
    static void replaceFirstAndLast(int threshold) {
        Machine m = new Machine(threshold);
        for (int i = 0; i < 24; i++) {
            m.emit(PRINT, 0, 0, 0);
        }
        int[] replaced = {0, 1, 22, 23};
        for (int i : replaced) {
            due(m.replace(i, LET, 0, 100 + i), i);
        }
        due(m.run(24), READY);
        due(m.count(), 24);
        due(m.printed(), 20);
        due(m.output(0), 405);
        due(m.output(19), 405);
        due(m.value(0), 123);
        // No instruction has come or gone.
        due(m.run(1), ENDED);
        due(m.place(), 24);
        due(m.emit(PRINT, 0, 0, 0), FULL);
    }

    @Sentence(in = "Promise 3", words = "Replaces instruction i")
    static void replaceInAHotLoop(int threshold) {
        Machine m = amidTheLoop(threshold);
        due(m.place(), 6);
        due(m.value(0), 8);
        due(m.replace(4, LET, 1, -1), 4);
        due(m.replace(6, PRINT, 3, 0), 6);
        // PRINT and JUMP, then turns of ADD, LET, LESS, PRINT and JUMP that count up once and then down without an end.
        due(m.run(2 + 5 * 10), READY);
        due(m.place(), 3);
        due(m.value(0), 0);
        due(m.value(1), -1);
        due(m.printed(), 8 + 11);
        due(m.output(8), 6);
        due(m.output(18), 6);
        due(m.count(), 41 + 52);
    }

    @Sentence(in = "Promise 3",
        words = "which must not be ADD, SUB, LESS or SAME, by an instruction that is not one of these either.")
    static void replaceOfEachOpByEachOp(int threshold) {
        for (int old = 0; old <= 10; old++) {
            for (int op = 0; op <= 10; op++) {
                Machine m = new Machine(threshold);
                m.emit(old, 0, 0, 0);
                boolean refused = hasThreeOperands(old) || hasThreeOperands(op);
                due(m.replace(0, op, 0, 0), refused ? BAD : 0);
                // Once replaced, it is the new op that counts.
                due(m.replace(0, ADD, 0, 0), BAD);
                due(m.replace(0, PRINT, 0, 0), hasThreeOperands(old) ? BAD : 0);
            }
        }
    }

    @Sentence(in = "Promise 3", words = "i no instruction's number")
    static void replaceNoInstruction(int threshold) {
        int[] none = {MIN, -65536, -24, -1, 24, 25, 256, 65536, MAX};
        Machine m = new Machine(threshold);
        for (int size = 0; size <= 24; size++) {
            due(m.replace(size, LET, 0, 1), BAD);
            due(m.replace(-1, LET, 0, 1), BAD);
            if (size > 0) {
                due(m.replace(size - 1, VOID, 1, 0), size - 1);
                due(m.replace(0, VOID, 1, 0), 0);
            }
            m.emit(VOID, 0, 0, 0);
        }
        for (int i : none) {
            due(m.replace(i, LET, 0, 1), BAD);
        }
        due(m.run(300), ENDED);
        due(m.sort(0), 0);
    }

    @Sentence(in = "Promise 3", words = "instruction i or op is ADD to SAME")
    static void replaceOfAddToSame(int threshold) {
        for (int old = 0; old <= 10; old++) {
            Machine m = new Machine(threshold);
            m.emit(VOID, 0, 0, 0);
            m.emit(old, 0, 0, 0);
            for (int op : PLAIN_OPS) {
                due(m.replace(1, op, 0, 0), hasThreeOperands(old) ? BAD : 1);
            }
        }
    }

    @Sentence(in = "Promise 3", words = "instruction i or op is ADD to SAME")
    static void replaceByAddToSame(int threshold) {
        for (int old = 0; old <= 10; old++) {
            Machine m = new Machine(threshold);
            m.emit(VOID, 0, 0, 0);
            m.emit(old, 0, 0, 0);
            for (int op = ADD; op <= SAME; op++) {
                due(m.replace(1, op, 0, 0), BAD);
            }
            due(m.replace(1, MOVE, 0, 0), hasThreeOperands(old) ? BAD : 1);
            due(m.replace(1, UNLESS, 0, 0), hasThreeOperands(old) ? BAD : 1);
        }
    }

    @Sentence(in = "Promise 3", words = "op outside 0..10")
    static void replaceByNoOp(int threshold) {
        Machine m = new Machine(threshold);
        m.emit(VOID, 0, 0, 0);
        for (int op : NO_OPS) {
            due(m.replace(0, op, 0, 0), BAD);
        }
        due(m.replace(0, LET, 0, 0), 0);
        due(m.replace(0, PRINT, 0, 0), 0);
    }

    @Sentence(in = "Promise 3", words = "or x or y refused as in emit: BAD.")
    static void replaceWithRefusedX(int threshold) {
        Machine m = new Machine(threshold);
        m.emit(VOID, 0, 0, 0);
        for (int op : PLAIN_OPS) {
            int[] refused = op == JUMP ? NO_TARGETS : NO_VARIABLES;
            int most = op == JUMP ? 23 : 5;
            for (int x : refused) {
                due(m.replace(0, op, x, 0), BAD);
            }
            for (int x = 0; x <= most; x++) {
                due(m.replace(0, op, x, 0), 0);
            }
        }
    }

    @Sentence(in = "Promise 3", words = "or x or y refused as in emit: BAD.")
    static void replaceWithRefusedY(int threshold) {
        Machine m = new Machine(threshold);
        m.emit(VOID, 0, 0, 0);
        for (int a : NO_VARIABLES) {
            due(m.replace(0, MOVE, 0, a), BAD);
        }
        for (int a = 0; a < 6; a++) {
            due(m.replace(0, MOVE, 0, a), 0);
        }
        for (int t : NO_TARGETS) {
            due(m.replace(0, UNLESS, 0, t), BAD);
        }
        for (int t = 0; t < 24; t++) {
            due(m.replace(0, UNLESS, 0, t), 0);
        }
        // n may be any int, and the others have no y.
        int[] ops = {LET, FLAG, VOID, JUMP, PRINT};
        for (int op : ops) {
            for (int any : ANY) {
                due(m.replace(0, op, 0, any), 0);
            }
        }
    }

    @Sentence(in = "Promise 3", words = "BAD. Else answers i.")
    static void replaceAnswersI(int threshold) {
        Machine m = new Machine(threshold);
        fill(m);
        for (int i = 0; i < 24; i++) {
            for (int op : PLAIN_OPS) {
                due(m.replace(i, op, 0, 0), i);
            }
        }
    }

    @Sentence(in = "Promise 3", words = "BAD. Else answers i.")
    static void refusedReplaceLeavesTheInstruction(int threshold) {
        Machine m = new Machine(threshold);
        m.emit(LET, 0, 3, 0);
        m.emit(ADD, 0, 0, 0);
        m.emit(JUMP, 3, 0, 0);
        m.emit(PRINT, 0, 0, 0);
        due(m.replace(0, LET, 6, 9), BAD);
        due(m.replace(0, SUB, 0, 0), BAD);
        due(m.replace(0, 11, 0, 9), BAD);
        due(m.replace(0, MOVE, 0, 6), BAD);
        due(m.replace(1, LET, 0, 9), BAD);
        due(m.replace(2, JUMP, 24, 0), BAD);
        due(m.replace(2, UNLESS, 0, -1), BAD);
        due(m.replace(3, PRINT, -1, 0), BAD);
        due(m.replace(4, VOID, 0, 0), BAD);
        due(m.run(300), ENDED);
        due(m.place(), 4);
        due(m.count(), 4);
        due(m.output(0), 25);
    }

    @Sentence(in = "Promise 3", words = "The machine stays as it is.")
    static void replaceLeavesTheMachine(int threshold) {
        dueReplacesLeave(amidTheLoop(threshold));
        dueReplacesLeave(ended(threshold));
        dueReplacesLeave(faulted(threshold));
    }

    private static void dueReplacesLeave(Machine m) {
        String before = m.look();
        due(m.replace(0, LET, 6, 1), BAD);
        due(m.replace(3, LET, 0, 1), BAD);
        due(m.look(), before);
        // Instructions that were executed, the one at the place, and some still to come.
        int[] plain = {0, 1, 2, 4, 6, 7};
        for (int i : plain) {
            for (int op : PLAIN_OPS) {
                due(m.replace(i, op, 0, 0), i);
            }
        }
        due(m.look(), before);
    }
}
