import java.util.ArrayList;
import java.util.List;

// An object under test that remembers its calls: a wrong answer is told with the run that led to it, and no test leans
// on a call for which the document promises nothing.
final class Machine {
    private static final int MOST_CALLS = 512;

    private static Machine latest = null;

    private final TypedTraces traces;
    private final List<String> calls = new ArrayList<>();
    private int made = 0;

    Machine(int threshold) {
        traces = new TypedTraces(threshold);
        calls.add("new TypedTraces(" + threshold + ")");
        latest = this;
    }

    // The calls on the object that was called last.
    static List<String> latestCalls() {
        return latest.calls;
    }

    int made() {
        return made;
    }

    int emit(int op, int x, int y, int z) {
        int answer = traces.emit(op, x, y, z);
        note("emit(" + op + ", " + x + ", " + y + ", " + z + ")", answer);
        return answer;
    }

    int replace(int i, int op, int x, int y) {
        int answer = traces.replace(i, op, x, y);
        note("replace(" + i + ", " + op + ", " + x + ", " + y + ")", answer);
        return answer;
    }

    void restart() {
        traces.restart();
        note("restart()", "nothing");
    }

    boolean put(int v, int value) {
        boolean answer = traces.put(v, value);
        note("put(" + v + ", " + value + ")", answer);
        return answer;
    }

    int run(int n) {
        int answer = traces.run(n);
        note("run(" + n + ")", answer);
        return answer;
    }

    int status() {
        int answer = traces.status();
        note("status()", answer);
        return answer;
    }

    int place() {
        int answer = traces.place();
        note("place()", answer);
        return answer;
    }

    int count() {
        int answer = traces.count();
        note("count()", answer);
        return answer;
    }

    int sort(int v) {
        int answer = traces.sort(v);
        note("sort(" + v + ")", answer);
        return answer;
    }

    int value(int v) {
        int answer = traces.value(v);
        note("value(" + v + ")", answer);
        return answer;
    }

    int printed() {
        int answer = traces.printed();
        note("printed()", answer);
        return answer;
    }

    long output(int k) {
        long answer = traces.output(k);
        note("output(" + k + ")", answer);
        return answer;
    }

    // All that can be seen of the machine.
    String look() {
        return "status " + status() + ", " + lookBesideStatus();
    }

    String lookBesideStatus() {
        StringBuilder seen = new StringBuilder("place " + place() + ", count " + count() + ", variables");
        for (int v = 0; v < 6; v++) {
            seen.append(" ").append(sort(v)).append(":").append(value(v));
        }
        seen.append(", printed ").append(printed()).append(", output");
        for (int k = 0; k < 25; k++) {
            seen.append(" ").append(output(k));
        }
        return seen.toString();
    }

    private void note(String call, Object answer) {
        latest = this;
        made++;
        calls.add(call + " answered " + answer);
        if (made > MOST_CALLS) {
            throw new IllegalStateException("a test makes more calls on one object than the document allows");
        }
    }
}
