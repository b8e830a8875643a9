import java.lang.reflect.InvocationTargetException;
import java.lang.reflect.Method;
import java.lang.reflect.Modifier;
import java.nio.charset.StandardCharsets;
import java.util.Arrays;
import java.util.List;

/** Counts answers that are not due; calls go by name, so that a throw is an answer too. */
final class Check {
    static final String WRONG_ARGUMENT = "IllegalArgumentException";
    static final String NO_SUCH = "IndexOutOfBoundsException";
    static final String TOO_MANY = "UnsupportedOperationException";
    static final String WRONG_STATE = "IllegalStateException";

    /** Methods of tests that only hand a call on: a failure is told by the line that called them. */
    private static final List<String> WRAPPERS = List.of("due", "noSuch", "wrongArgument", "tooMany", "wrongState",
            "refused", "answers", "index", "argument", "wrongBelow", "sceneLightSeat");

    private static int wrong = 0;

    private Check() {
    }

    static Method method(Class<?> type, String name) {
        for (Method method : type.getDeclaredMethods()) {
            if (method.getName().equals(name) && Modifier.isPublic(method.getModifiers())) {
                return method;
            }
        }
        throw new AssertionError("no method " + name);
    }

    static String answer(Object object, Method method, Object... args) {
        try {
            return String.valueOf(method.invoke(object, args));
        } catch (InvocationTargetException e) {
            return e.getCause().getClass().getSimpleName();
        } catch (IllegalAccessException e) {
            throw new AssertionError(e);
        }
    }

    static String answer(Object object, String name, Object... args) {
        return answer(object, method(object.getClass(), name), args);
    }

    static void due(Object want, LampSheets x, String name, Object... args) {
        String got = answer(x, name, args);
        if (!got.equals(String.valueOf(want))) {
            fail(name + Arrays.toString(args) + " answered " + got + ", due is " + want);
        }
    }

    static void fail(String what) {
        wrong++;
        StackTraceElement[] trace = new Throwable().getStackTrace();
        String where = "";
        for (StackTraceElement step : trace) {
            if (!step.getClassName().equals("Check") && !WRAPPERS.contains(step.getMethodName())) {
                where = step.toString();
                break;
            }
        }
        System.out.println(where + ": " + what);
    }

    /** Feeds a text, so that the tape holds it alone. */
    static void text(LampSheets x, String text) {
        byte[] bytes = text.getBytes(StandardCharsets.ISO_8859_1);
        x.end(0);
        for (int at = 0; at < bytes.length; at += 20) {
            x.feed(word(bytes, at), word(bytes, at + 4), word(bytes, at + 8), word(bytes, at + 12), word(bytes, at + 16));
        }
        x.end(bytes.length);
    }

    static int word(byte[] bytes, int at) {
        int word = 0;
        for (int i = at; i < at + 4; i++) {
            word = word << 8 | (i < bytes.length ? bytes[i] & 255 : 0);
        }
        return word;
    }

    static void end() {
        System.out.println(wrong == 0 ? "all answers are as due" : wrong + " answers are not as due");
        if (wrong != 0) {
            System.exit(1);
        }
    }
}
