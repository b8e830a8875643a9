import java.io.IOException;
import java.lang.reflect.Field;
import java.lang.reflect.Modifier;
import java.nio.file.Files;
import java.nio.file.Path;
import java.util.HashSet;
import java.util.List;
import java.util.Map;
import java.util.Set;
import java.util.TreeMap;
import java.util.regex.Matcher;
import java.util.regex.Pattern;

/** What a look at the source's words can tell of the rules of LANGUAGE.md. */
public final class LanguageTest {
    private static final Path SOURCE = Path.of("src/main/java/LampSheets.java");
    private static final String[] BARRED = {"import ", "package ", "->", "::", "synchronized", "assert ", "instanceof",
        "try ", "catch", "finally", "System.out", "Object ", "double", "float", "protected ", "Exact("};
    /** All that the class takes of the library's own classes, each a thing that rule 4 names. */
    private static final Set<String> LIBRARY = Set.of("Integer.bitCount", "Long.bitCount", "System.arraycopy");
    private static final Set<String> THROWN = Set.of("IllegalStateException", "IllegalArgumentException",
            "IndexOutOfBoundsException", "UnsupportedOperationException");
    private static final int MOST_LINES = 60;
    private static final int DEEPEST = 8;
    private static final int MOST_FIELDS = 20;

    /** A method's or constructor's first line, its body, and the closing brace at the same column. */
    private static final Pattern METHOD = Pattern.compile(
            "(?m)^( {4}| {8})(?! )((?:public |private |static |final )*(?:\\w+(?:\\[\\])? )?(\\w+)\\([^;{=]*\\{\\n)"
            + "((?:.*\\n)*?)\\1\\}$");

    private LanguageTest() {
    }

    public static void main(String[] args) throws IOException {
        String source = Files.readString(SOURCE);
        String code = source.replaceAll("(?s)/\\*.*?\\*/", "").replaceAll("\"[^\"]*\"", "\"\"");
        expect(source.chars().allMatch(c -> c < 128), "signs up to 127 alone");
        for (String word : BARRED) {
            expect(!code.contains(word), "no '" + word + "' in the source");
        }
        library(code);
        thrown(code);
        methods(code);
        fields();
        Check.end();
    }

    private static void library(String code) {
        Matcher used = Pattern.compile("\\b(Integer|Long|Math|System|Arrays|String|StringBuilder|List)\\.\\w+").matcher(code);
        while (used.find()) {
            expect(LIBRARY.contains(used.group()), "rule 4 has " + used.group());
        }
    }

    private static void thrown(String code) {
        Matcher thrown = Pattern.compile("\\bthrow (new (\\w+)\\(\"\"\\);)?").matcher(code);
        while (thrown.find()) {
            expect(thrown.group(1) != null && THROWN.contains(thrown.group(2)), "rule 6 has " + thrown.group());
        }
    }

    private static void methods(String code) {
        Map<String, String> bodies = new TreeMap<>();
        Matcher method = METHOD.matcher(code);
        while (method.find()) {
            String name = method.group(3);
            expect(method.group().lines().count() <= MOST_LINES, name + " is short");
            if (!method.group(2).startsWith(name) && !method.group(2).startsWith("public " + name)) {
                expect(bodies.put(name, method.group(4)) == null, "one method named " + name);
            }
        }
        expect(bodies.size() > 100, "more methods are found than " + bodies.size());
        for (String name : bodies.keySet()) {
            int depth = depth(name, bodies, new HashSet<>());
            expect(depth <= DEEPEST, "calls from " + name + " go at most " + DEEPEST + " deep, not " + depth);
        }
    }

    /** How many calls stand open at once, the first one counted; all names are those of one method each. */
    private static int depth(String name, Map<String, String> bodies, Set<String> open) {
        expect(open.add(name), "no recursion by " + name);
        int deepest = 0;
        Matcher call = Pattern.compile("\\b(\\w+)\\(").matcher(bodies.get(name));
        while (call.find()) {
            if (bodies.containsKey(call.group(1)) && !open.contains(call.group(1))) {
                deepest = Math.max(deepest, depth(call.group(1), bodies, open));
            } else {
                expect(!open.contains(call.group(1)), "no recursion by " + call.group(1));
            }
        }
        open.remove(name);
        return deepest + 1;
    }

    private static void fields() {
        List<Class<?>> all = new java.util.ArrayList<>(List.of(LampSheets.class.getDeclaredClasses()));
        all.add(LampSheets.class);
        for (Class<?> type : all) {
            int fields = 0;
            for (Field field : type.getDeclaredFields()) {
                boolean isStatic = Modifier.isStatic(field.getModifiers());
                expect(!isStatic || Modifier.isFinal(field.getModifiers()), "static fields are final: " + field);
                fields += isStatic ? 0 : 1;
            }
            expect(fields <= MOST_FIELDS, "no more than " + MOST_FIELDS + " fields in " + type);
        }
    }

    private static void expect(boolean holds, String what) {
        if (!holds) {
            Check.fail("not so: " + what);
        }
    }
}
