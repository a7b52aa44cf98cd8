import java.util.Arrays;

// What LANGUAGE.md asks of every call, the document's 512 or later: none throws or fails to end, whatever its arguments
// (rule 7), and the same calls give the same answers (rule 11). So two objects that get the same calls must agree.
public final class AnyCallsTest {
    private static final int OBJECTS = 360;
    private static final int CALLS = 3000;
    private static final int[] ODD = {Integer.MIN_VALUE, Integer.MIN_VALUE + 1, -65536, -256, -25, -1, 6, 11, 24, 25,
        32, 255, 300, 301, 65536, Integer.MAX_VALUE - 1, Integer.MAX_VALUE};
    private static final int[] THRESHOLDS = {Integer.MIN_VALUE, 0, 1, 2, 3, 4, 5, 6, Integer.MAX_VALUE};

    private static long seed = 512;

    public static void main(String[] args) {
        for (int object = 0; object < OBJECTS; object++) {
            int threshold = THRESHOLDS[object % THRESHOLDS.length];
            String wrong = firstWrong(threshold);
            if (wrong != null) {
                System.out.println("object " + object + ", threshold " + threshold + ", " + wrong);
                System.exit(1);
            }
        }
        System.out.println("no call throws, and the same calls have the same answers");
    }

    private static String firstWrong(int threshold) {
        TypedTraces first = new TypedTraces(threshold);
        TypedTraces second = new TypedTraces(threshold);
        for (int i = 1; i <= CALLS; i++) {
            int method = below(40);
            int[] a = {argument(), argument(), argument(), argument()};
            String call = "call " + i + " (method " + method + ", arguments " + Arrays.toString(a) + ") ";
            try {
                long got = answer(first, method, a);
                long again = answer(second, method, a);
                if (got != again) {
                    return call + "answered " + got + " and then, on an object like it, " + again;
                }
            } catch (RuntimeException thrown) {
                return call + "threw " + thrown;
            }
        }
        return null;
    }

    private static int below(int n) {
        seed = seed * 6364136223846793005L + 1442695040888963407L;
        return (int) ((seed >>> 33) % n);
    }

    private static int argument() {
        return below(12) == 0 ? ODD[below(ODD.length)] : below(6);
    }

    // Few restarts, so that the machine gets far, and many replaces, as a full program changes by these alone.
    private static long answer(TypedTraces x, int method, int[] a) {
        switch (method) {
            case 0:
                x.restart();
                return 0;
            case 1: case 2: case 3:
                return x.emit(a[0] + a[1], a[2], a[3], a[1]);
            case 4: case 5: case 6: case 7: case 8:
                return x.replace(a[0] * a[1], a[2] + a[3], a[1], a[0]);
            case 9: case 10: case 11: case 12:
                return x.put(a[0], a[1]) ? 1 : 0;
            case 13:
                return x.status();
            case 14:
                return x.place();
            case 15:
                return x.count();
            case 16:
                return x.sort(a[0]);
            case 17:
                return x.value(a[0]);
            case 18:
                return x.printed();
            case 19:
                return x.output(a[0] * a[1]);
            default:
                return x.run(a[0] * a[1] * a[2]);
        }
    }
}
