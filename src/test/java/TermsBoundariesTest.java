// The sentences of "Terms", on either side of the boundaries that they name; each instruction where it is done once and
// in a hot loop.
public final class TermsBoundariesTest extends Boundaries {
    private static final int[][] INTS = {intOf(MIN), intOf(-1), intOf(0), intOf(1), intOf(MAX)};

    public static void main(String[] args) throws IllegalAccessException {
        runAll(TermsBoundariesTest.class);
    }

    @Sentence(in = "Terms", words = "There are 6 VARIABLES, 0 to 5.")
    static void sixVariables(int threshold) {
        Machine m = new Machine(threshold);
        for (int v = 0; v < 6; v++) {
            due(m.put(v, 100 + v), true);
        }
        due(m.put(-1, 1), false);
        due(m.put(6, 1), false);
        due(m.sort(-1), BAD);
        due(m.sort(6), BAD);
        for (int v = 0; v < 6; v++) {
            dueVariable(m, v, 1, 100 + v);
        }
    }

    @Sentence(in = "Terms", words = "A VALUE is an int, a flag (true or false), or nothing.")
    static void sortsOfValues(int threshold) {
        Machine m = new Machine(threshold);
        int[][] values = {intOf(0), FALSE, NOTHING, TRUE, intOf(1), NOTHING};
        int[] sorts = {1, 2, 0, 2, 1, 0};
        int[] numbers = {0, 0, 0, 1, 1, 0};
        for (int i = 0; i < values.length; i++) {
            emitValue(m, 4, values[i]);
            due(m.run(1), READY);
            dueVariable(m, 4, sorts[i], numbers[i]);
        }
    }

    @Sentence(in = "Terms", words = "A program is a list of up to 24 instructions, numbered from 0")
    static void upTo24InstructionsNumberedFrom0(int threshold) {
        Machine m = new Machine(threshold);
        for (int i = 0; i < 24; i++) {
            due(m.emit(LET, 0, 70 + i, 0), i + 1);
        }
        due(m.emit(LET, 0, 94, 0), FULL);
        for (int i = 0; i < 24; i++) {
            due(m.place(), i);
            due(m.run(1), READY);
            due(m.value(0), 70 + i);
        }
        due(m.place(), 24);
        due(m.run(1), ENDED);
        due(m.count(), 24);
        due(m.value(0), 93);
    }

    @Sentence(in = "Terms, LET v n", words = "variable v becomes the int n")
    static void letTakesEveryInt(int threshold) {
        int[] numbers = {MIN, MIN + 1, -65536, -256, -1, 0, 1, 255, 65536, MAX - 1, MAX};
        for (int n : numbers) {
            for (int v = 0; v < 6; v++) {
                dueMade(threshold, v, intOf(n), 1, n);
            }
        }
    }

    @Sentence(in = "Terms, FLAG v n", words = "variable v becomes the flag true if n is not 0, else false")
    static void flagIsFalseFor0Alone(int threshold) {
        int[] numbers = {MIN, -65536, -2, -1, 1, 2, 256, 65536, MAX};
        for (int v = 0; v < 6; v++) {
            dueMade(threshold, v, FALSE, 2, 0);
            for (int n : numbers) {
                dueMade(threshold, v, new int[] {FLAG, n}, 2, 1);
            }
        }
    }

    @Sentence(in = "Terms, VOID v", words = "variable v becomes nothing")
    static void voidMakesNothing(int threshold) {
        for (int v = 0; v < 6; v++) {
            dueMade(threshold, v, NOTHING, 0, 0);
        }
    }

    // The variable was an int, a flag or nothing before; in the hot loop it is so in turn.
    private static void dueMade(int threshold, int v, int[] value, int sort, int number) {
        int[][] before = {intOf(7), TRUE, NOTHING};
        Machine m = new Machine(threshold);
        for (int[] each : before) {
            emitValue(m, v, each);
            emitValue(m, v, value);
            due(m.run(2), READY);
            dueVariable(m, v, sort, number);
        }
        m.emit(JUMP, 0, 0, 0);
        due(m.run(294), READY);
        due(m.place(), 6);
        dueVariable(m, v, sort, number);
        due(m.count(), 300);
    }

    @Sentence(in = "Terms, MOVE v a", words = "variable v becomes variable a")
    static void moveTakesEveryValue(int threshold) {
        int[][] values = {NOTHING, intOf(0), intOf(MIN), intOf(MAX), FALSE, TRUE};
        int[] sorts = {0, 1, 1, 1, 2, 2};
        int[] numbers = {0, 0, MIN, MAX, 0, 1};
        for (int i = 0; i < values.length; i++) {
            for (int v = 0; v < 6; v += 5) {
                // Onto itself, too: then the variable stays as it is.
                for (int a = 0; a < 6; a++) {
                    Machine m = new Machine(threshold);
                    emitValue(m, v, intOf(9));
                    emitValue(m, a, values[i]);
                    m.emit(MOVE, v, a, 0);
                    m.emit(JUMP, 0, 0, 0);
                    due(m.run(3), READY);
                    dueVariable(m, v, sorts[i], numbers[i]);
                    dueVariable(m, a, sorts[i], numbers[i]);
                    due(m.run(297), READY);
                    dueVariable(m, v, sorts[i], numbers[i]);
                    dueVariable(m, a, sorts[i], numbers[i]);
                }
            }
        }
    }

    @Sentence(in = "Terms, ADD v a b", words = "if a and b are ints: v becomes the int a + b (wrapping as in Java)")
    static void addWraps(int threshold) {
        for (int[] a : INTS) {
            for (int[] b : INTS) {
                dueCombined(threshold, ADD, a, b, 1, a[1] + b[1]);
            }
        }
        dueCombined(threshold, ADD, intOf(MAX - 1), intOf(1), 1, MAX);
        dueCombined(threshold, ADD, intOf(MAX), intOf(1), 1, MIN);
        dueCombined(threshold, ADD, intOf(MIN + 1), intOf(-1), 1, MIN);
        dueCombined(threshold, ADD, intOf(MIN), intOf(-1), 1, MAX);
        dueWrapInALoop(threshold, ADD, MAX - 20, MAX, MIN);
    }

    @Sentence(in = "Terms, SUB v a b", words = "if a and b are ints: the int a - b")
    static void subtractWraps(int threshold) {
        for (int[] a : INTS) {
            for (int[] b : INTS) {
                dueCombined(threshold, SUB, a, b, 1, a[1] - b[1]);
            }
        }
        dueCombined(threshold, SUB, intOf(MIN + 1), intOf(1), 1, MIN);
        dueCombined(threshold, SUB, intOf(MIN), intOf(1), 1, MAX);
        dueCombined(threshold, SUB, intOf(5), intOf(7), 1, -2);
        dueWrapInALoop(threshold, SUB, MIN + 20, MIN, MAX);
    }

    // Twenty turns to the last int on one side, one more to the other side, all in a loop that is hot by then.
    private static void dueWrapInALoop(int threshold, int op, int first, int last, int wrapped) {
        Machine m = new Machine(threshold);
        m.emit(op, 0, 0, 1);
        m.emit(JUMP, 0, 0, 0);
        m.put(0, first);
        m.put(1, 1);
        due(m.run(40), READY);
        dueVariable(m, 0, 1, last);
        due(m.run(2), READY);
        dueVariable(m, 0, 1, wrapped);
        due(m.count(), 42);
    }

    @Sentence(in = "Terms, ADD v a b", words = "if both are flags: the flag that is true if one of them is")
    static void addOfFlags(int threshold) {
        dueCombined(threshold, ADD, FALSE, FALSE, 2, 0);
        dueCombined(threshold, ADD, FALSE, TRUE, 2, 1);
        dueCombined(threshold, ADD, TRUE, FALSE, 2, 1);
        dueCombined(threshold, ADD, TRUE, TRUE, 2, 1);
    }

    @Sentence(in = "Terms, ADD v a b", words = "else FAULT")
    static void addOfOtherSortsFaults(int threshold) {
        dueFaultsOfMixedSorts(threshold, ADD);
        dueFault(threshold, ADD, NOTHING, NOTHING);
    }

    @Sentence(in = "Terms, SUB v a b", words = "else FAULT")
    static void subtractOfOtherSortsFaults(int threshold) {
        dueFaultsOfMixedSorts(threshold, SUB);
        dueFault(threshold, SUB, NOTHING, NOTHING);
        dueFault(threshold, SUB, TRUE, TRUE);
        dueFault(threshold, SUB, FALSE, FALSE);
    }

    @Sentence(in = "Terms, LESS v a b", words = "else FAULT")
    static void lessOfOtherSortsFaults(int threshold) {
        dueFaultsOfMixedSorts(threshold, LESS);
        dueFault(threshold, LESS, NOTHING, NOTHING);
        dueFault(threshold, LESS, FALSE, TRUE);
        dueFault(threshold, LESS, FALSE, FALSE);
    }

    private static void dueFaultsOfMixedSorts(int threshold, int op) {
        int[][] values = {NOTHING, intOf(0), TRUE};
        for (int a = 0; a < values.length; a++) {
            for (int b = 0; b < values.length; b++) {
                if (a != b) {
                    dueFault(threshold, op, values[a], values[b]);
                }
            }
        }
    }

    @Sentence(in = "Terms, LESS v a b", words = "if a and b are ints: the flag that says whether a < b")
    static void lessOnEitherSideOfEqual(int threshold) {
        for (int[] a : INTS) {
            for (int[] b : INTS) {
                dueCombined(threshold, LESS, a, b, 2, a[1] < b[1] ? 1 : 0);
            }
        }
        int[] numbers = {MIN + 1, -1, 0, 1, MAX - 1};
        for (int n : numbers) {
            dueCombined(threshold, LESS, intOf(n), intOf(n + 1), 2, 1);
            dueCombined(threshold, LESS, intOf(n), intOf(n), 2, 0);
            dueCombined(threshold, LESS, intOf(n), intOf(n - 1), 2, 0);
        }
    }

    @Sentence(in = "Terms, SAME v a b",
        words = "the flag that says whether a and b are of the same sort and, if they are ints or flags, equal")
    static void sameOnlyOfOneSortAndEqual(int threshold) {
        // Most of these are the number 0 or 1 to value(): only the sort tells them apart.
        int[][] values = {NOTHING, FALSE, TRUE, intOf(0), intOf(1), intOf(2), intOf(MIN), intOf(MAX)};
        for (int a = 0; a < values.length; a++) {
            for (int b = 0; b < values.length; b++) {
                dueCombined(threshold, SAME, values[a], values[b], 2, a == b ? 1 : 0);
            }
        }
    }

    private static Machine combining(int threshold, int op, int[] a, int[] b) {
        Machine m = new Machine(threshold);
        emitValue(m, 1, a);
        emitValue(m, 2, b);
        m.emit(op, 3, 1, 2);
        m.emit(PRINT, 3, 0, 0);
        m.emit(JUMP, 0, 0, 0);
        return m;
    }

    private static void dueCombined(int threshold, int op, int[] a, int[] b, int sort, int value) {
        Machine m = combining(threshold, op, a, b);
        due(m.run(3), READY);
        dueVariable(m, 3, sort, value);
        due(m.place(), 3);
        due(m.count(), 3);
        due(m.run(297), READY);
        dueVariable(m, 3, sort, value);
        due(m.place(), 0);
        due(m.count(), 300);
        due(m.output(23), 4L * value + sort);
    }

    private static void dueFault(int threshold, int op, int[] a, int[] b) {
        Machine m = combining(threshold, op, a, b);
        m.put(3, 77);
        due(m.run(2), READY);
        String before = m.lookBesideStatus();
        due(m.run(1), FAULT);
        due(m.lookBesideStatus(), before);
        due(m.place(), 2);
        due(m.count(), 2);
        dueVariable(m, 3, 1, 77);
    }

    @Sentence(in = "Terms, UNLESS v t", words = "if variable v is the flag false or nothing, instruction t is next")
    static void unlessJumpsForFalseAndNothingAlone(int threshold) {
        for (int t = 0; t < 24; t++) {
            dueUnless(threshold, NOTHING, t, t);
            dueUnless(threshold, FALSE, t, t);
            dueUnless(threshold, TRUE, t, 2);
            dueUnless(threshold, intOf(0), t, 2);
            dueUnless(threshold, intOf(1), t, 2);
            dueUnless(threshold, intOf(-1), t, 2);
        }
        Machine untouched = new Machine(threshold);
        untouched.emit(UNLESS, 5, 9, 0);
        untouched.run(1);
        due(untouched.place(), 9);
        dueUnlessInALoop(threshold, NOTHING, 0);
        dueUnlessInALoop(threshold, FALSE, 0);
        dueUnlessInALoop(threshold, TRUE, 75);
        dueUnlessInALoop(threshold, intOf(0), 75);
        dueUnlessInALoop(threshold, intOf(1), 75);
    }

    private static void dueUnless(int threshold, int[] value, int t, int next) {
        Machine m = new Machine(threshold);
        emitValue(m, 4, value);
        m.emit(UNLESS, 4, t, 0);
        due(m.run(2), READY);
        due(m.place(), next);
        due(m.count(), 2);
    }

    // A turn takes three steps where UNLESS jumps, else four with a PRINT.
    private static void dueUnlessInALoop(int threshold, int[] value, int printed) {
        Machine m = new Machine(threshold);
        emitValue(m, 4, value);
        m.emit(UNLESS, 4, 4, 0);
        m.emit(PRINT, 4, 0, 0);
        m.emit(JUMP, 0, 0, 0);
        m.emit(JUMP, 0, 0, 0);
        due(m.run(300), READY);
        due(m.place(), 0);
        due(m.count(), 300);
        due(m.printed(), printed);
    }

    @Sentence(in = "Terms, JUMP t", words = "instruction t is next")
    static void jumpGoesToEveryTarget(int threshold) {
        for (int t = 0; t < 24; t++) {
            Machine m = new Machine(threshold);
            m.emit(VOID, 0, 0, 0);
            m.emit(JUMP, t, 0, 0);
            due(m.run(2), READY);
            due(m.place(), t);
            due(m.count(), 2);
        }
        Machine full = new Machine(threshold);
        full.emit(JUMP, 23, 0, 0);
        for (int i = 1; i < 23; i++) {
            full.emit(PRINT, 0, 0, 0);
        }
        due(full.emit(JUMP, 0, 0, 0), 24);
        due(full.run(299), READY);
        due(full.place(), 23);
        due(full.run(1), READY);
        due(full.place(), 0);
        due(full.printed(), 0);
        due(full.count(), 300);
    }

    @Sentence(in = "Terms, PRINT v", words = "adds the value to the end of the output")
    static void printAddsAtTheEnd(int threshold) {
        int[][] values = {NOTHING, intOf(5), TRUE, FALSE, intOf(-5), NOTHING};
        long[] outputs = {0, 21, 6, 2, -19, 0};
        Machine m = new Machine(threshold);
        for (int[] value : values) {
            emitValue(m, 2, value);
            m.emit(PRINT, 2, 0, 0);
        }
        m.emit(JUMP, 0, 0, 0);
        due(m.printed(), 0);
        for (int i = 0; i < values.length; i++) {
            due(m.run(2), READY);
            due(m.printed(), i + 1);
            due(m.output(i), outputs[i]);
        }
        due(m.run(39), READY);
        due(m.printed(), 24);
        for (int k = 0; k < 24; k++) {
            due(m.output(k), outputs[k % values.length]);
        }
    }

    @Sentence(in = "Terms", words = "Where nothing else is said the instruction with the next number is next.")
    static void nextNumberIsNext(int threshold) {
        Machine m = new Machine(threshold);
        for (int i = 0; i < 2; i++) {
            m.emit(LET, 0, 3, 0);
            m.emit(FLAG, 1, 1, 0);
            m.emit(VOID, 2, 0, 0);
            m.emit(MOVE, 3, 0, 0);
            m.emit(ADD, 3, 3, 0);
            m.emit(SUB, 3, 3, 0);
            m.emit(LESS, 4, 3, 0);
            m.emit(SAME, 4, 2, 2);
            m.emit(UNLESS, 1, 0, 0);
            m.emit(UNLESS, 0, 0, 0);
            m.emit(PRINT, 3, 0, 0);
            m.emit(PRINT, 2, 0, 0);
        }
        for (int i = 1; i <= 24; i++) {
            due(m.run(1), READY);
            due(m.place(), i);
            due(m.count(), i);
        }
        due(m.run(1), ENDED);
        due(m.place(), 24);
    }

    @Sentence(in = "Terms",
        words = "A machine has variables, an output, and the number of the instruction that is next (its PLACE)")
    static void eachMachineHasItsOwn(int threshold) {
        Machine waiting = amidTheLoop(threshold);
        String before = waiting.look();
        Machine first = counting(threshold);
        Machine second = counting(threshold);
        due(second.replace(2, LET, 2, 5), 2);
        due(second.emit(PRINT, 5, 0, 0), 9);
        second.put(5, 77);
        for (int i = 0; i < 5; i++) {
            due(first.run(7), READY);
            due(second.run(4), READY);
        }
        due(first.count(), 35);
        due(second.count(), 20);
        due(first.run(300), ENDED);
        due(second.run(300), ENDED);
        due(first.place(), 8);
        due(second.place(), 9);
        due(first.printed(), 10);
        due(second.printed(), 6);
        due(second.output(5), 309);
        dueVariable(first, 5, 0, 0);
        dueVariable(second, 5, 1, 77);
        second.restart();
        due(first.printed(), 10);
        due(waiting.look(), before);
    }

    @Sentence(in = "Terms", words = "its STATUS is READY, ENDED or FAULT.")
    static void statusIsOneOfThree(int threshold) {
        Machine ends = new Machine(threshold);
        due(ends.status(), READY);
        due(ends.run(1), ENDED);
        due(ends.status(), ENDED);
        Machine faults = new Machine(threshold);
        faults.emit(LESS, 0, 0, 0);
        due(faults.status(), READY);
        due(faults.run(1), FAULT);
        due(faults.status(), FAULT);
        // All three are told apart.
        due(READY != ENDED && ENDED != FAULT && FAULT != READY, true);
    }

    @Sentence(in = "Terms", words = "To DO a step: if the status is not READY, nothing")
    static void noStepUnlessReady(int threshold) {
        Machine ended = ended(threshold);
        // From here on there is an instruction with the place's number, yet it is not executed.
        due(ended.emit(LET, 5, 5, 0), 9);
        String before = ended.look();
        due(ended.run(1), ENDED);
        due(ended.run(300), ENDED);
        due(ended.look(), before);
        due(ended.sort(5), 0);

        Machine faulted = faulted(threshold);
        // From here on the instruction at the place would not FAULT, yet it is not executed.
        faulted.put(3, 1);
        before = faulted.look();
        due(faulted.run(1), FAULT);
        due(faulted.run(300), FAULT);
        due(faulted.look(), before);
        due(faulted.sort(5), 0);

        Machine ready = amidTheLoop(threshold);
        due(ready.count(), 41);
        due(ready.run(1), READY);
        due(ready.count(), 42);
    }

    @Sentence(in = "Terms", words = "if there is no instruction with the place's number the status becomes ENDED")
    static void endedWhereNoInstructionIs(int threshold) {
        Machine empty = new Machine(threshold);
        dueEnd(empty, 0, 0);

        Machine one = new Machine(threshold);
        one.emit(VOID, 0, 0, 0);
        due(one.run(1), READY);
        dueEnd(one, 1, 1);

        Machine full = new Machine(threshold);
        fill(full);
        due(full.run(24), READY);
        dueEnd(full, 24, 24);

        Machine loop = counting(threshold);
        due(loop.run(52), READY);
        dueEnd(loop, 8, 52);

        for (int t = 3; t < 24; t++) {
            Machine far = new Machine(threshold);
            far.emit(JUMP, t, 0, 0);
            far.emit(VOID, 0, 0, 0);
            far.emit(VOID, 0, 0, 0);
            due(far.run(1), READY);
            dueEnd(far, t, 1);
        }
    }

    private static void dueEnd(Machine m, int place, int count) {
        due(m.place(), place);
        due(m.status(), READY);
        String before = m.lookBesideStatus();
        due(m.run(1), ENDED);
        due(m.status(), ENDED);
        due(m.lookBesideStatus(), before);
        due(m.place(), place);
        due(m.count(), count);
    }

    @Sentence(in = "Terms", words = "if there is no instruction with the place's number the status becomes ENDED")
    static void notEndedWhereAnInstructionIs(int threshold) {
        Machine last = new Machine(threshold);
        last.emit(JUMP, 2, 0, 0);
        last.emit(VOID, 0, 0, 0);
        last.emit(LET, 0, 8, 0);
        due(last.run(2), READY);
        due(last.value(0), 8);
        due(last.count(), 2);

        // The instruction comes to the place just before the step.
        Machine late = new Machine(threshold);
        due(late.emit(VOID, 0, 0, 0), 1);
        due(late.run(1), READY);
        due(late.place(), 1);
        due(late.emit(LET, 0, 8, 0), 2);
        due(late.run(1), READY);
        due(late.value(0), 8);
        due(late.count(), 2);
    }

    @Sentence(in = "Terms", words = "if the instruction at the place is one that must FAULT, the status becomes FAULT")
    static void onlyAddSubAndLessFault(int threshold) {
        int[][] values = {NOTHING, intOf(0), FALSE};
        for (int op = 0; op <= 10; op++) {
            for (int[] a : values) {
                for (int[] b : values) {
                    boolean ints = a == values[1] && b == values[1];
                    boolean flags = a == values[2] && b == values[2];
                    boolean good = ints || op == ADD && flags || op != ADD && op != SUB && op != LESS;
                    Machine m = new Machine(threshold);
                    emitValue(m, 1, a);
                    emitValue(m, 2, b);
                    m.emit(op, 1, 1, 2);
                    due(m.run(2), READY);
                    // An instruction that must FAULT is next, yet no step has come to it.
                    due(m.run(0), READY);
                    due(m.run(1), good ? READY : FAULT);
                    due(m.count(), good ? 3 : 2);
                }
            }
        }
    }

    @Sentence(in = "Terms", words = "if the instruction at the place is one that must FAULT")
    static void noFaultWhereThePlaceDoesNotCome(int threshold) {
        // In a loop around it that is hot, too.
        Machine m = new Machine(threshold);
        m.emit(PRINT, 5, 0, 0);
        m.emit(JUMP, 3, 0, 0);
        m.emit(SUB, 0, 5, 5);
        m.emit(UNLESS, 5, 0, 0);
        m.emit(LESS, 0, 5, 5);
        due(m.run(300), READY);
        due(m.place(), 0);
        due(m.printed(), 100);
        // The flag true is let past the UNLESS, so that the place does come to one.
        due(m.replace(0, FLAG, 5, 1), 0);
        due(m.run(3), READY);
        due(m.place(), 4);
        due(m.run(1), FAULT);
        due(m.count(), 303);
    }

    @Sentence(in = "Terms", words = "the status becomes FAULT and nothing else changes")
    static void faultChangesNothingElse(int threshold) {
        int[] ops = {ADD, SUB, LESS};
        for (int op : ops) {
            for (int v = 0; v < 6; v++) {
                Machine m = new Machine(threshold);
                for (int other = 0; other < 6; other++) {
                    emitValue(m, other, other == 4 ? TRUE : intOf(50 + other));
                }
                m.emit(PRINT, v, 0, 0);
                m.emit(op, v, 4, 5);
                due(m.run(7), READY);
                String before = m.lookBesideStatus();
                due(m.run(300), FAULT);
                due(m.status(), FAULT);
                due(m.lookBesideStatus(), before);
                due(m.place(), 7);
                due(m.count(), 7);
                due(m.printed(), 1);
            }
        }
    }

    @Sentence(in = "Terms", words = "the status becomes FAULT and nothing else changes")
    static void faultInAHotLoopChangesNothingElse(int threshold) {
        Machine m = new Machine(threshold);
        m.emit(FLAG, 0, 0, 0);
        m.emit(FLAG, 1, 1, 0);
        m.emit(PRINT, 0, 0, 0);
        m.emit(ADD, 0, 0, 1);
        m.emit(JUMP, 2, 0, 0);
        due(m.run(2 + 3 * 99), READY);
        due(m.place(), 2);
        m.put(1, 1);
        due(m.run(1), READY);
        String before = m.lookBesideStatus();
        due(m.run(1), FAULT);
        due(m.lookBesideStatus(), before);
        due(m.place(), 3);
        due(m.count(), 300);
        due(m.printed(), 100);
        dueVariable(m, 0, 2, 1);
    }

    @Sentence(in = "Terms", words = "else the instruction is executed and counted")
    static void eachInstructionIsCountedOnce(int threshold) {
        int[] ready = {LET, FLAG, VOID, MOVE, ADD, SUB, LESS, SAME, UNLESS, JUMP, PRINT};
        for (int op : ready) {
            Machine m = new Machine(threshold);
            m.put(0, 1);
            due(m.emit(op, 0, 0, 0), 1);
            due(m.count(), 0);
            due(m.run(1), READY);
            due(m.count(), 1);
        }
    }
}
