import java.io.IOException;
import java.lang.reflect.Constructor;
import java.lang.reflect.Field;
import java.lang.reflect.Method;
import java.lang.reflect.Modifier;
import java.nio.file.Files;
import java.nio.file.Path;
import java.util.ArrayList;
import java.util.Arrays;
import java.util.HashSet;
import java.util.List;
import java.util.Set;

/** The face is that of the document and no more. */
public final class FaceTest {
    private static final Path DOCUMENT = Path.of("../shared/DOC.md");

    private FaceTest() {
    }

    public static void main(String[] args) throws IOException {
        members();
        methods(Files.readString(DOCUMENT));
        names();
        Check.end();
    }

    private static void members() {
        int type = LampSheets.class.getModifiers();
        expect(Modifier.isPublic(type) && Modifier.isFinal(type), "the class is public and final");
        for (Constructor<?> constructor : LampSheets.class.getDeclaredConstructors()) {
            expect(constructor.getParameterCount() == 0, "no other constructor");
        }
        for (Field field : LampSheets.class.getDeclaredFields()) {
            boolean isNone = field.getName().equals("NONE");
            expect(isNone ? Modifier.isPublic(field.getModifiers()) : Modifier.isPrivate(field.getModifiers()),
                    "the field " + field.getName());
            expect(!Modifier.isStatic(field.getModifiers()) || Modifier.isFinal(field.getModifiers()),
                    "static fields are final");
        }
        for (Class<?> inside : LampSheets.class.getDeclaredClasses()) {
            expect(Modifier.isStatic(inside.getModifiers()), inside + " is static");
        }
    }

    private static String told(Method method) {
        List<String> parameters = new ArrayList<>();
        for (Class<?> type : method.getParameterTypes()) {
            parameters.add(type.getSimpleName());
        }
        List<String> thrown = new ArrayList<>();
        for (Class<?> type : method.getExceptionTypes()) {
            thrown.add(type.getSimpleName());
        }
        return "public " + method.getReturnType() + " " + method.getName() + "(" + String.join(", ", parameters) + ")"
                + (thrown.isEmpty() ? "" : " throws " + String.join(", ", thrown)) + ";";
    }

    private static void methods(String document) {
        Set<String> want = new HashSet<>();
        for (String line : document.split("\n")) {
            String face = line.strip();
            if (face.matches("public \\w+ \\w+\\(.*;")) {
                want.add(face.replaceAll("(int|boolean) \\w+([,)])", "$1$2"));
            }
        }
        expect(want.size() == 45, "the document has 45 methods, not " + want.size());
        for (Method method : LampSheets.class.getDeclaredMethods()) {
            if (Modifier.isPrivate(method.getModifiers())) {
                continue;
            }
            expect(want.remove(told(method)), "the document has " + told(method));
        }
        expect(want.isEmpty(), "the class has " + want);
    }

    private static void names() {
        Set<String> face = new HashSet<>();
        for (Method method : LampSheets.class.getDeclaredMethods()) {
            if (Modifier.isPublic(method.getModifiers())) {
                face.add(method.getName());
            }
        }
        List<Class<?>> all = new ArrayList<>(Arrays.asList(LampSheets.class.getDeclaredClasses()));
        all.add(LampSheets.class);
        for (Class<?> type : all) {
            for (Method method : type.getDeclaredMethods()) {
                boolean isFace = Modifier.isPublic(method.getModifiers());
                expect(isFace || !face.contains(method.getName()), "a name of its own for " + method);
                expect(method.getParameterCount() <= 7, "seven parameters at most for " + method);
            }
            expect(type.getDeclaredMethods().length > 0, "methods in " + type);
        }
        expect(all.size() <= 12, "twelve classes at most");
    }

    private static void expect(boolean holds, String what) {
        if (!holds) {
            Check.fail("not so: " + what);
        }
    }
}
