// The sentences of promises 1 and 4 to 14, on either side of the boundaries that they name, and the number of calls
// that an object is for.
public final class MachineBoundariesTest extends Boundaries {
    public static void main(String[] args) throws IllegalAccessException {
        runAll(MachineBoundariesTest.class);
    }

    @Sentence(in = "Promise 1", words = "threshold, clamped into 1..5, shows in no answer.")
    static void thresholdShowsInNoAnswer(int threshold) {
        int[] others = {MIN, -65536, -1, 0, 1, 2, 3, 4, 5, 6, 7, 256, 65536, MAX};
        int[] sizes = {1, 4, 5, 7, 41, 300};
        for (int other : others) {
            for (int size : sizes) {
                dueAlike(counting(other), counting(threshold), size);
                dueAlike(turningSorts(other), turningSorts(threshold), size);
            }
        }
    }

    private static void dueAlike(Machine got, Machine want, int size) {
        for (int i = 0; i < 5; i++) {
            due(got.run(size), want.run(size));
            due(got.look(), want.look());
        }
    }

    // An int, a flag and nothing go round in three variables: only every third turn of the loop has the same sorts.
    private static Machine turningSorts(int threshold) {
        Machine m = new Machine(threshold);
        m.put(0, 8);
        m.emit(FLAG, 1, 1, 0);
        m.emit(MOVE, 3, 0, 0);
        m.emit(MOVE, 0, 1, 0);
        m.emit(MOVE, 1, 2, 0);
        m.emit(MOVE, 2, 3, 0);
        m.emit(UNLESS, 0, 7, 0);
        m.emit(PRINT, 1, 0, 0);
        m.emit(SAME, 4, 1, 4);
        m.emit(JUMP, 1, 0, 0);
        return m;
    }

    @Sentence(in = "Promise 1", words = "No instructions")
    static void newObjectHasNoInstructions(int threshold) {
        Machine m = new Machine(threshold);
        due(m.replace(0, LET, 0, 0), BAD);
        due(m.run(1), ENDED);
        due(m.count(), 0);
        due(new Machine(threshold).emit(LET, 0, 0, 0), 1);
    }

    @Sentence(in = "Promise 1", words = "all variables nothing, the output empty, place 0, count 0, status READY.")
    static void newObjectIsAtTheBeginning(int threshold) {
        int[] thresholds = {MIN, -1, 0, threshold, 6, MAX};
        for (int each : thresholds) {
            dueBeginning(new Machine(each));
        }
        // Nothing is not an int or a flag: the first instruction that wants one must FAULT.
        for (int v = 0; v < 6; v++) {
            Machine m = new Machine(threshold);
            m.emit(ADD, 0, v, v);
            due(m.run(1), FAULT);
        }
    }

    private static void dueBeginning(Machine m) {
        due(m.status(), READY);
        due(m.place(), 0);
        due(m.count(), 0);
        for (int v = 0; v < 6; v++) {
            dueVariable(m, v, 0, 0);
        }
        due(m.printed(), 0);
        for (int k = -1; k < 26; k++) {
            due(m.output(k), -1);
        }
    }

    @Sentence(in = "Promise 4", words = "All variables become nothing")
    static void restartMakesVariablesNothing(int threshold) {
        Machine m = new Machine(threshold);
        int[][] values = {intOf(MIN), TRUE, FALSE, intOf(0), intOf(MAX), TRUE};
        for (int v = 0; v < 6; v++) {
            emitValue(m, v, values[v]);
        }
        due(m.run(6), READY);
        m.restart();
        for (int v = 0; v < 6; v++) {
            dueVariable(m, v, 0, 0);
        }
        // To the instructions, too.
        m.replace(0, UNLESS, 0, 9);
        due(m.run(1), READY);
        due(m.place(), 9);
    }

    @Sentence(in = "Promise 4", words = "the output empty")
    static void restartEmptiesTheOutput(int threshold) {
        int[] printed = {1, 23, 24, 25, 100};
        for (int number : printed) {
            Machine m = printing(threshold);
            m.put(0, 6);
            due(m.run(2 * number), READY);
            due(m.printed(), number);
            m.restart();
            due(m.printed(), 0);
            for (int k = 0; k < 26; k++) {
                due(m.output(k), -1);
            }
            // Older values do not show behind the newer ones.
            m.put(0, 7);
            due(m.run(2), READY);
            due(m.printed(), 1);
            due(m.output(0), 29);
            due(m.output(1), -1);
        }
    }

    @Sentence(in = "Promise 4", words = "place and count 0, the status READY.")
    static void restartFromEveryStatus(int threshold) {
        Machine[] machines = {new Machine(threshold), amidTheLoop(threshold), ended(threshold), faulted(threshold)};
        for (Machine m : machines) {
            m.restart();
            dueBeginning(m);
            m.restart();
            dueBeginning(m);
        }
    }

    // The document says that restart changes the machine, and nothing that it does to the program.
    @Sentence(in = "Promise 4",
        words = "All variables become nothing, the output empty, place and count 0, the status READY.")
    static void restartLeavesTheInstructions(int threshold) {
        Machine again = ended(threshold);
        String first = again.look();
        for (int i = 0; i < 4; i++) {
            again.restart();
            due(again.run(300), ENDED);
            due(again.look(), first);
        }
        due(again.replace(2, LET, 2, 3), 2);
        again.restart();
        due(again.run(300), ENDED);
        due(again.printed(), 3);
        due(again.emit(VOID, 0, 0, 0), 9);

        Machine full = new Machine(threshold);
        fill(full);
        full.restart();
        due(full.emit(VOID, 0, 0, 0), FULL);
        due(full.replace(23, LET, 0, 4), 23);
        due(full.run(300), ENDED);
        due(full.count(), 24);
        due(full.value(0), 4);
    }

    @Sentence(in = "Promise 5", words = "Makes variable v an int.")
    static void putMakesAnIntOfEverySort(int threshold) {
        int[][] values = {NOTHING, intOf(3), FALSE, TRUE};
        int[] numbers = {MIN, -1, 0, 1, MAX};
        for (int[] before : values) {
            for (int v = 0; v < 6; v++) {
                Machine m = new Machine(threshold);
                emitValue(m, v, before);
                m.emit(SUB, v, v, v);
                due(m.run(1), READY);
                for (int n : numbers) {
                    due(m.put(v, n), true);
                    dueVariable(m, v, 1, n);
                }
                // To the instructions, too: SUB takes ints alone.
                due(m.run(1), READY);
                dueVariable(m, v, 1, 0);
            }
        }
    }

    @Sentence(in = "Promise 5", words = "v outside 0..5: refused, answers false. Else true.")
    static void putOutside0To5(int threshold) {
        Machine[] machines = {new Machine(threshold), amidTheLoop(threshold), ended(threshold), faulted(threshold)};
        for (Machine m : machines) {
            String before = m.look();
            for (int v : NO_VARIABLES) {
                due(m.put(v, 7), false);
            }
            due(m.look(), before);
            for (int v = 0; v < 6; v++) {
                due(m.put(v, 7), true);
            }
        }
    }

    @Sentence(in = "Promise 5", words = "Makes variable v an int.")
    static void putChangesNothingElse(int threshold) {
        Machine[] machines = {new Machine(threshold), amidTheLoop(threshold), ended(threshold), faulted(threshold)};
        for (Machine m : machines) {
            int status = m.status();
            int place = m.place();
            int count = m.count();
            int printed = m.printed();
            long last = m.output(printed - 1);
            int sort = m.sort(3);
            due(m.put(0, 77), true);
            due(m.put(5, 78), true);
            due(m.status(), status);
            due(m.place(), place);
            due(m.count(), count);
            due(m.printed(), printed);
            due(m.output(printed - 1), last);
            due(m.sort(3), sort);
            dueVariable(m, 0, 1, 77);
            dueVariable(m, 5, 1, 78);
            due(m.sort(4), 0);
        }
    }

    @Sentence(in = "Promise 6", words = "Does n steps, n clamped into 0..300.")
    static void runClampsFromBelow(int threshold) {
        int[] none = {MIN, -65536, -300, -1, 0};
        for (int n : none) {
            Machine m = printing(threshold);
            due(m.run(n), READY);
            due(m.count(), 0);
            due(m.place(), 0);
            due(m.run(1), READY);
            due(m.count(), 1);
            due(m.run(n), READY);
            due(m.count(), 1);

            Machine empty = new Machine(threshold);
            due(empty.run(n), READY);
            due(empty.status(), READY);
            due(empty.run(1), ENDED);
        }
    }

    @Sentence(in = "Promise 6", words = "Does n steps, n clamped into 0..300.")
    static void runClampsFromAbove(int threshold) {
        int[] steps = {1, 2, 3, 298, 299, 300, 301, 302, 512, 65536, 65537, MAX};
        for (int n : steps) {
            int done = n > 300 ? 300 : n;
            Machine m = printing(threshold);
            due(m.run(n), READY);
            due(m.count(), done);
            due(m.place(), done % 2);
            due(m.printed(), (done + 1) / 2);
            // A loop that is hot already takes no more steps than one that is not.
            due(m.run(n), READY);
            due(m.count(), 2 * done);

            Machine itself = new Machine(threshold);
            itself.emit(JUMP, 0, 0, 0);
            due(itself.run(n), READY);
            due(itself.count(), done);
        }
    }

    @Sentence(in = "Promise 6", words = "Does n steps, n clamped into 0..300.")
    static void runStopsWithinATurn(int threshold) {
        Machine hot = counting(threshold);
        due(hot.run(300), ENDED);
        String[] places = new String[53];
        for (int n = 0; n <= 52; n++) {
            Machine cold = counting(threshold);
            due(cold.run(n), READY);
            due(cold.count(), n);
            places[n] = cold.look();
        }
        for (int n = 44; n <= 52; n++) {
            hot.restart();
            due(hot.run(n), READY);
            due(hot.look(), places[n]);
        }
        Machine single = counting(threshold);
        for (int n = 1; n <= 52; n++) {
            due(single.run(1), READY);
            due(single.count(), n);
        }
        due(single.look(), places[52]);
    }

    @Sentence(in = "Promise 6", words = "Answers the status.")
    static void runAnswersTheStatus(int threshold) {
        Machine ends = counting(threshold);
        due(ends.run(52), READY);
        due(ends.run(0), READY);
        due(ends.run(1), ENDED);
        due(ends.run(0), ENDED);
        due(ends.run(-1), ENDED);

        Machine faults = counting(threshold);
        faults.emit(SUB, 0, 3, 3);
        due(faults.run(52), READY);
        due(faults.run(0), READY);
        due(faults.run(1), FAULT);
        due(faults.run(0), FAULT);
        due(faults.run(MIN), FAULT);
    }

    @Sentence(in = "Promise 7", words = "The status.")
    static void statusAtItsChanges(int threshold) {
        Machine ends = counting(threshold);
        due(ends.status(), READY);
        ends.run(52);
        due(ends.status(), READY);
        ends.run(1);
        due(ends.status(), ENDED);
        ends.restart();
        due(ends.status(), READY);

        Machine faults = counting(threshold);
        faults.emit(SUB, 0, 3, 3);
        faults.run(52);
        due(faults.status(), READY);
        faults.run(1);
        due(faults.status(), FAULT);
        faults.restart();
        due(faults.status(), READY);
    }

    @Sentence(in = "Promise 8", words = "The place.")
    static void placeFrom0To24(int threshold) {
        Machine m = new Machine(threshold);
        for (int i = 0; i < 23; i++) {
            m.emit(VOID, 0, 0, 0);
        }
        m.emit(UNLESS, 1, 0, 0);
        for (int i = 0; i < 24; i++) {
            due(m.place(), i);
            due(m.run(1), READY);
        }
        due(m.place(), 0);
        m.put(1, 0);
        due(m.run(24), READY);
        due(m.place(), 24);
        due(m.run(1), ENDED);
        due(m.place(), 24);
    }

    @Sentence(in = "Promise 9",
        words = "The number of instructions executed since the beginning or the latest restart.")
    static void countSinceTheLatestRestart(int threshold) {
        Machine m = printing(threshold);
        due(m.count(), 0);
        int all = 0;
        for (int n = 0; n <= 300; n += 60) {
            due(m.run(n), READY);
            all += n;
            due(m.count(), all);
        }
        for (int i = 1; i < 4; i++) {
            m.restart();
            due(m.count(), 0);
            due(m.run(0), READY);
            due(m.count(), 0);
            due(m.run(i), READY);
            due(m.count(), i);
        }
    }

    @Sentence(in = "Promise 9",
        words = "The number of instructions executed since the beginning or the latest restart.")
    static void countOfExecutedAlone(int threshold) {
        // The step that makes the status ENDED or FAULT executes no instruction.
        Machine ended = ended(threshold);
        due(ended.count(), 52);
        Machine faulted = faulted(threshold);
        due(faulted.count(), 52);
        // Neither do the other calls.
        Machine[] machines = {ended, faulted, amidTheLoop(threshold)};
        for (Machine m : machines) {
            int count = m.count();
            m.put(0, 1);
            m.emit(VOID, 0, 0, 0);
            m.replace(0, VOID, 0, 0);
            m.output(0);
            due(m.count(), count);
        }
    }

    @Sentence(in = "Promise 10",
        words = "The sort of a variable's value: 0 nothing, 1 int, 2 flag; BAD for v outside 0..5.")
    static void sortInsideAndOutside0To5(int threshold) {
        int[][] values = {NOTHING, intOf(0), FALSE, TRUE, intOf(2), intOf(-1)};
        int[] sorts = {0, 1, 2, 2, 1, 1};
        for (int turn = 0; turn < 6; turn++) {
            Machine m = new Machine(threshold);
            for (int v = 0; v < 6; v++) {
                emitValue(m, v, values[(v + turn) % 6]);
            }
            due(m.run(6), READY);
            for (int v = 0; v < 6; v++) {
                due(m.sort(v), sorts[(v + turn) % 6]);
            }
            for (int v : NO_VARIABLES) {
                due(m.sort(v), BAD);
            }
        }
    }

    @Sentence(in = "Promise 11",
        words = "The int, or 1 for the flag true, that variable v is; else 0, and 0 for v outside 0..5.")
    static void valueInsideAndOutside0To5(int threshold) {
        int[][] values = {intOf(MIN), intOf(MAX), FALSE, {FLAG, 9}, intOf(-1), NOTHING};
        int[] numbers = {MIN, MAX, 0, 1, -1, 0};
        for (int turn = 0; turn < 6; turn++) {
            Machine m = new Machine(threshold);
            for (int v = 0; v < 6; v++) {
                m.put(v, 9);
                emitValue(m, v, values[(v + turn) % 6]);
            }
            due(m.run(6), READY);
            for (int v = 0; v < 6; v++) {
                due(m.value(v), numbers[(v + turn) % 6]);
            }
            for (int v : NO_VARIABLES) {
                due(m.value(v), 0);
            }
        }
    }

    // Prints variable 0 with every other step.
    private static Machine printing(int threshold) {
        Machine m = new Machine(threshold);
        m.emit(PRINT, 0, 0, 0);
        m.emit(JUMP, 0, 0, 0);
        return m;
    }

    @Sentence(in = "Promise 12", words = "The number of values in the output.")
    static void printedFromNoneOn(int threshold) {
        Machine m = printing(threshold);
        due(m.printed(), 0);
        for (int i = 1; i <= 30; i++) {
            due(m.run(1), READY);
            due(m.printed(), i);
            due(m.run(1), READY);
            due(m.printed(), i);
        }
        // A FAULT or the end adds no value, and none is taken away.
        due(ended(threshold).printed(), 10);
        due(faulted(threshold).printed(), 10);
    }

    @Sentence(in = "Promise 13", words = "Value k of the output, from 0")
    static void outputIsInTheOrderOfPrinting(int threshold) {
        // An int, a flag and nothing in turn: each is kept as it was when it was printed.
        Machine m = new Machine(threshold);
        m.emit(ADD, 0, 0, 1);
        m.emit(PRINT, 0, 0, 0);
        m.emit(LESS, 3, 0, 2);
        m.emit(PRINT, 3, 0, 0);
        m.emit(VOID, 3, 0, 0);
        m.emit(PRINT, 3, 0, 0);
        m.emit(JUMP, 0, 0, 0);
        m.put(0, -4);
        m.put(1, 1);
        m.put(2, 0);
        due(m.run(7 * 8), READY);
        due(m.printed(), 24);
        for (int turn = 0; turn < 8; turn++) {
            int number = turn - 3;
            due(m.output(3 * turn), 4L * number + 1);
            due(m.output(3 * turn + 1), number < 0 ? 6 : 2);
            due(m.output(3 * turn + 2), 0);
        }
        m.put(0, 1000);
        due(m.run(300), READY);
        due(m.output(0), -11);
        due(m.output(21), 17);
        due(m.output(22), 2);
    }

    @Sentence(in = "Promise 13", words = "as 4 * (the int, or 1 for the flag true, else 0) + its sort, as a long")
    static void outputIsALong(int threshold) {
        int[][] values = {NOTHING, FALSE, TRUE, intOf(0), intOf(1), intOf(-1), intOf(MAX), intOf(MIN),
            intOf(0x20000000), intOf(-0x20000001)};
        long[] outputs = {0L, 2L, 6L, 1L, 5L, -3L, 8589934589L, -8589934591L, 2147483649L, -2147483651L};
        for (int i = 0; i < values.length; i++) {
            Machine m = new Machine(threshold);
            emitValue(m, 0, values[i]);
            m.emit(PRINT, 0, 0, 0);
            m.emit(JUMP, 0, 0, 0);
            due(m.run(2), READY);
            due(m.output(0), outputs[i]);
            due(m.run(298), READY);
            due(m.output(23), outputs[i]);
        }
    }

    @Sentence(in = "Promise 13", words = "only the first 24 values are kept")
    static void theFirst24ValuesAreKept(int threshold) {
        Machine m = new Machine(threshold);
        m.emit(ADD, 0, 0, 1);
        m.emit(PRINT, 0, 0, 0);
        m.emit(JUMP, 0, 0, 0);
        m.put(0, -1);
        m.put(1, 1);
        int[] turns = {23, 1, 1, 1, 50};
        for (int more : turns) {
            due(m.run(3 * more), READY);
            int printed = m.printed();
            for (int k = 0; k < 24; k++) {
                due(m.output(k), k < printed ? 4L * k + 1 : -1);
            }
            due(m.output(24), -1);
            due(m.output(printed - 1), printed <= 24 ? 4L * (printed - 1) + 1 : -1);
        }
        due(m.printed(), 76);
    }

    @Sentence(in = "Promise 13", words = "-1 for k outside 0 .. printed() - 1 and for k of 24 or more.")
    static void outputOutside(int threshold) {
        int[] outside = {MIN, -65536, -256, -24, -1, 24, 25, 32, 256, 65536, MAX};
        for (int printed = 0; printed <= 26; printed++) {
            Machine m = printing(threshold);
            m.put(0, 3);
            due(m.run(2 * printed), READY);
            due(m.printed(), printed);
            for (int k = 0; k <= 26; k++) {
                due(m.output(k), k < printed && k < 24 ? 13 : -1);
            }
            for (int k : outside) {
                due(m.output(k), -1);
            }
        }
    }

    @Sentence(in = "Promise 14",
        words = "printed counts all values that PRINT has added since the beginning or the latest restart")
    static void printedSinceTheLatestRestart(int threshold) {
        Machine m = printing(threshold);
        due(m.run(300), READY);
        due(m.printed(), 150);
        due(m.run(300), READY);
        due(m.printed(), 300);
        for (int i = 1; i < 4; i++) {
            m.restart();
            due(m.printed(), 0);
            due(m.run(2 * i), READY);
            due(m.printed(), i);
        }
        m.restart();
        m.restart();
        due(m.printed(), 0);
    }

    @Sentence(in = "Promise 14", words = "those after the 24th, too.")
    static void printedAfterThe24th(int threshold) {
        Machine m = printing(threshold);
        due(m.run(46), READY);
        due(m.printed(), 23);
        for (int i = 24; i <= 60; i++) {
            due(m.run(2), READY);
            due(m.printed(), i);
        }
        for (int i = 1; i <= 10; i++) {
            due(m.run(300), READY);
            due(m.printed(), 60 + 150 * i);
        }
    }

    @Sentence(in = "Promise 14", words = "put makes variable v the int value.")
    static void putMakesTheValue(int threshold) {
        int[] numbers = {MIN, -65536, -1, 0, 1, 255, 65536, MAX};
        Machine m = printing(threshold);
        for (int n : numbers) {
            for (int v = 0; v < 6; v++) {
                due(m.put(v, n), true);
                dueVariable(m, v, 1, n);
            }
        }
        // In a loop that is hot, the value is the new one at once.
        m.restart();
        for (int i = 0; i < numbers.length; i++) {
            due(m.put(0, numbers[i]), true);
            due(m.run(2), READY);
            due(m.output(i), 4L * numbers[i] + 1);
        }
    }

    @Sentence(in = "What it is", words = "An object is used for at most 512 calls after it has been made")
    static void theLastCallsAnswerAsTheFirst(int threshold) {
        Machine m = printing(threshold);
        while (m.made() < 508) {
            due(m.run(300), READY);
        }
        due(m.count(), 506 * 300);
        due(m.printed(), 506 * 150);
        due(m.output(23), 0);
        due(m.run(1), READY);
        due(m.made(), 512);
    }
}
