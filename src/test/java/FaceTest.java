import java.lang.reflect.Constructor;
import java.lang.reflect.Field;
import java.lang.reflect.Method;
import java.lang.reflect.Modifier;
import java.util.Arrays;
import java.util.TreeMap;
import java.util.TreeSet;

/** The public face: every constant, constructor and method of the document, and no other that can be seen. */
public final class FaceTest {
    private static final Check CHECK = new Check();

    public static void main(String[] args) {
        CHECK.due("the class's modifiers", LockElision.class.getModifiers(), Modifier.PUBLIC | Modifier.FINAL);
        constants();
        constructor();
        methods();
        CHECK.end();
    }

    private static void constants() {
        TreeMap<String, Integer> want = new TreeMap<>();
        number(want, 0, "OP_LOADI OP_LOAD OP_STORE OP_ADD OP_ADDI OP_LOADX OP_STOREX OP_XABORT OP_JNZ");
        number(want, 0, "STATE_IDLE STATE_READY STATE_SPEC STATE_WAITLOCK STATE_LOCKED");
        number(want, -1, "STEP_REFUSED STEP_IDLE STEP_BLOCKED STEP_BEGAN STEP_ACQUIRED STEP_EXECUTED"
                + " STEP_ABORTED STEP_COMMITTED STEP_RELEASED");
        number(want, 0, "CAUSE_NONE CAUSE_CONFLICT CAUSE_CAPACITY CAUSE_EXPLICIT CAUSE_LOCK");
        number(want, 0, "COUNT_ELIDED COUNT_LOCKED COUNT_ABORTS");
        number(want, 1, "READ_BIT WRITE_BIT");
        want.put("CORES", 4);
        want.put("WORDS", 64);
        want.put("LOCK_LINE", 16);
        want.put("PROGRAM_MAX", 16);
        for (Field field : LockElision.class.getDeclaredFields()) {
            if (Modifier.isPrivate(field.getModifiers())) {
                continue;
            }
            Integer value = want.remove(field.getName());
            CHECK.due(field.getName() + " is in the document", value != null, true);
            if (value != null) {
                CHECK.due(field.getName() + " modifiers", field.getModifiers(),
                        Modifier.PUBLIC | Modifier.STATIC | Modifier.FINAL);
                CHECK.due(field.getName(), intOf(field), value);
            }
        }
        CHECK.due("constants that are missing: " + want.keySet(), want.size(), 0);
    }

    private static void number(TreeMap<String, Integer> want, int first, String names) {
        int value = first;
        for (String name : names.split(" ")) {
            want.put(name, value++);
        }
    }

    private static int intOf(Field field) {
        try {
            return field.getType() == int.class ? field.getInt(null) : Integer.MIN_VALUE;
        } catch (IllegalAccessException notPublic) {
            return Integer.MIN_VALUE;
        }
    }

    private static void constructor() {
        Constructor<?>[] all = LockElision.class.getDeclaredConstructors();
        CHECK.due("number of constructors", all.length, 1);
        CHECK.due("the constructor is public", Modifier.isPublic(all[0].getModifiers()), true);
        CHECK.due("the constructor takes three ints",
                Arrays.equals(all[0].getParameterTypes(), new Class<?>[] {int.class, int.class, int.class}), true);
    }

    private static void methods() {
        TreeSet<String> want = new TreeSet<>(Arrays.asList(
                "int append(4)", "boolean clearProgram(1)", "boolean enter(1)", "int step(1)",
                "boolean poke(2)", "int peek(1)", "int state(1)", "int pc(1)", "int reg(2)",
                "int result(2)", "int attempts(1)", "int lastCause(1)", "int abortCode(1)",
                "int count(2)", "int lockOwner(0)", "int lineState(2)"));
        for (Method method : LockElision.class.getDeclaredMethods()) {
            if (Modifier.isPrivate(method.getModifiers())) {
                continue;
            }
            String form = method.getReturnType() + " " + method.getName() + "(" + method.getParameterCount() + ")";
            CHECK.due(form + " is in the document", want.remove(form), true);
            CHECK.due(form + " modifiers", method.getModifiers(), Modifier.PUBLIC);
            for (Class<?> type : method.getParameterTypes()) {
                CHECK.due(form + " takes ints", type == int.class, true);
            }
        }
        CHECK.due("methods that are missing: " + want, want.size(), 0);
    }
}
