import java.lang.reflect.InvocationTargetException;
import java.lang.reflect.Method;
import java.util.Arrays;
import java.util.Comparator;
import java.util.TreeSet;
import java.util.regex.Matcher;
import java.util.regex.Pattern;

/** Runs the cases at the document's bounds, each a method named by its promise's number. */
public final class BoundaryTest {
    private static final Class<?>[] CASES = {TextBounds.class, SheetBounds.class, StageBounds.class, SceneBounds.class,
        FrameBounds.class};
    private static final Pattern CASE = Pattern.compile("promise(\\d\\d)\\w+");
    private static final int PROMISES = 46;

    private BoundaryTest() {
    }

    public static void main(String[] args) throws IllegalAccessException {
        TreeSet<Integer> tested = new TreeSet<>();
        int cases = 0;
        for (Class<?> type : CASES) {
            Method[] methods = type.getDeclaredMethods();
            Arrays.sort(methods, Comparator.comparing(Method::getName));
            for (Method method : methods) {
                Matcher name = CASE.matcher(method.getName());
                if (name.matches()) {
                    tested.add(Integer.parseInt(name.group(1)));
                    cases++;
                    run(method);
                }
            }
        }
        for (int promise = 1; promise <= PROMISES; promise++) {
            if (!tested.contains(promise)) {
                Check.fail("promise " + promise + " has no case");
            }
        }
        System.out.println(cases + " cases");
        Check.end();
    }

    private static void run(Method method) throws IllegalAccessException {
        try {
            method.invoke(null);
        } catch (InvocationTargetException e) {
            Check.fail(method.getName() + " ended with " + e.getCause());
        }
    }
}
