import java.lang.reflect.Constructor;
import java.lang.reflect.Field;
import java.lang.reflect.Method;
import java.lang.reflect.Modifier;
import java.util.Arrays;
import java.util.Set;
import java.util.TreeSet;

// The class shows the document's face and nothing else, and its fields are of the types that LANGUAGE.md leaves.
public final class FaceTest {
    private static int wrong = 0;

    public static void main(String[] args) throws IllegalAccessException {
        due("class", Modifier.toString(TypedTraces.class.getModifiers()), "public final");
        due("constructors", constructors(), Set.of("public TypedTraces(int)"));
        due("methods", methods(), Set.of(
            "public int TypedTraces.emit(int,int,int,int)",
            "public int TypedTraces.replace(int,int,int,int)",
            "public void TypedTraces.restart()",
            "public boolean TypedTraces.put(int,int)",
            "public int TypedTraces.run(int)",
            "public int TypedTraces.status()",
            "public int TypedTraces.place()",
            "public int TypedTraces.count()",
            "public int TypedTraces.sort(int)",
            "public int TypedTraces.value(int)",
            "public int TypedTraces.printed()",
            "public long TypedTraces.output(int)"));
        due("constants", constants(), Set.of(
            "public static final int TypedTraces.LET = 0",
            "public static final int TypedTraces.FLAG = 1",
            "public static final int TypedTraces.VOID = 2",
            "public static final int TypedTraces.MOVE = 3",
            "public static final int TypedTraces.ADD = 4",
            "public static final int TypedTraces.SUB = 5",
            "public static final int TypedTraces.LESS = 6",
            "public static final int TypedTraces.SAME = 7",
            "public static final int TypedTraces.UNLESS = 8",
            "public static final int TypedTraces.JUMP = 9",
            "public static final int TypedTraces.PRINT = 10",
            "public static final int TypedTraces.READY = 0",
            "public static final int TypedTraces.ENDED = 1",
            "public static final int TypedTraces.FAULT = 2",
            "public static final int TypedTraces.BAD = -1",
            "public static final int TypedTraces.FULL = -2"));
        due("nested classes", TypedTraces.class.getDeclaredClasses().length, 0);
        checkFields();
        checkPrivateMethods();
        System.out.println(wrong == 0 ? "the face is as due" : wrong + " parts of the face are not as due");
        if (wrong != 0) {
            System.exit(1);
        }
    }

    private static void due(String what, Object got, Object want) {
        if (!got.equals(want)) {
            wrong++;
            System.out.println(what + ": found " + got + ", due is " + want);
        }
    }

    private static Set<String> constructors() {
        Set<String> found = new TreeSet<>();
        for (Constructor<?> each : TypedTraces.class.getDeclaredConstructors()) {
            found.add(each.toString());
        }
        return found;
    }

    private static Set<String> methods() {
        Set<String> found = new TreeSet<>();
        for (Method each : TypedTraces.class.getDeclaredMethods()) {
            if (!Modifier.isPrivate(each.getModifiers())) {
                found.add(each.toString());
            }
        }
        return found;
    }

    private static Set<String> constants() throws IllegalAccessException {
        Set<String> found = new TreeSet<>();
        for (Field each : TypedTraces.class.getDeclaredFields()) {
            if (!Modifier.isPrivate(each.getModifiers())) {
                found.add(each + " = " + (Modifier.isStatic(each.getModifiers()) ? each.get(null) : "no constant"));
            }
        }
        return found;
    }

    private static void checkFields() {
        Set<String> numbers = new TreeSet<>(Arrays.asList("int", "long", "short", "byte", "char", "boolean"));
        int fields = 0;
        for (Field each : TypedTraces.class.getDeclaredFields()) {
            Class<?> type = each.getType();
            if (Modifier.isStatic(each.getModifiers())) {
                due(each.getName() + " is final", Modifier.isFinal(each.getModifiers()), true);
                due(each.getName() + " is int or long", type == int.class || type == long.class, true);
            } else {
                fields++;
                Class<?> part = type.isArray() ? type.getComponentType() : type;
                due(each.getName() + " is of a number type", numbers.contains(part.getName()), true);
            }
        }
        due("at most forty fields", fields <= 40, true);
    }

    private static void checkPrivateMethods() {
        Set<String> open = new TreeSet<>();
        for (Method each : TypedTraces.class.getDeclaredMethods()) {
            if (!Modifier.isPrivate(each.getModifiers())) {
                open.add(each.getName());
            }
        }
        for (Method each : TypedTraces.class.getDeclaredMethods()) {
            if (Modifier.isPrivate(each.getModifiers())) {
                due(each.getName() + " bears a public name", open.contains(each.getName()), false);
            }
            due(each.getName() + " has at most seven parameters", each.getParameterCount() <= 7, true);
        }
    }
}
