import java.lang.reflect.Constructor;
import java.lang.reflect.Field;
import java.lang.reflect.Method;
import java.lang.reflect.Modifier;
import java.nio.file.Files;
import java.nio.file.Path;
import java.util.HashSet;
import java.util.Set;
import java.util.TreeSet;

/** The public face, and those rules of LANGUAGE.md that can be seen from outside. */
public final class FaceTest {
    private static final Check CHECK = new Check("FaceTest");
    private static final String METHODS = "alike/4 clash/2 copy/1 dest/2 drop/2 entry/2 exchange/0 fault/0 file/3"
        + " image/1 limit/1 moved/3 origin/2 pair/3 put/1 restore/1 say/1 settle/0 told/1 votes/3 wipe/0";
    private static final String[] FORBIDDEN = {"throw", "throws", "try", "catch", "synchronized", "assert", "import",
        "package", "protected", "instanceof", "volatile", "double", "float", "System", "Object"};

    public static void main(String[] args) throws Exception {
        constants();
        members();
        nestedClasses();
        source();
        CHECK.end();
    }

    private static void constants() throws Exception {
        String[] names = {"UNKNOWN", "OUTSIDE", "STATE", "FULL", "NO", "NONE"};
        for (int k = 0; k < names.length; k++) {
            Field field = MovedFolders.class.getField(names[k]);
            CHECK.same(names[k], Modifier.toString(field.getModifiers()), "public static final");
            CHECK.due(names[k], field.getInt(null), -1 - k);
        }
        CHECK.due("constants", MovedFolders.class.getFields().length, 6);
    }

    private static void members() {
        CHECK.same("class", Modifier.toString(MovedFolders.class.getModifiers()), "public final");
        Set<String> open = new TreeSet<>();
        Set<String> names = new HashSet<>();
        for (Method method : MovedFolders.class.getDeclaredMethods()) {
            if (!Modifier.isPrivate(method.getModifiers())) {
                open.add(method.getName() + "/" + method.getParameterCount());
                names.add(method.getName());
                CHECK.same(method.getName(), Modifier.toString(method.getModifiers()), "public");
                CHECK.same(method.getName(), method.getReturnType().getName(), "int");
                for (Class<?> type : method.getParameterTypes()) {
                    CHECK.same(method.getName(), type.getName(), "int");
                }
            }
        }
        CHECK.same("methods", String.join(" ", open), METHODS);
        for (Method method : MovedFolders.class.getDeclaredMethods()) {
            boolean both = Modifier.isPrivate(method.getModifiers()) && names.contains(method.getName());
            CHECK.due("a private " + method.getName(), both ? 1 : 0, 0);
        }
        Constructor<?>[] made = MovedFolders.class.getDeclaredConstructors();
        CHECK.due("constructors", made.length, 1);
        CHECK.same("constructor", Modifier.toString(made[0].getModifiers()), "public");
        CHECK.due("constructor", made[0].getParameterCount(), 0);
        for (Field field : MovedFolders.class.getDeclaredFields()) {
            int modifiers = field.getModifiers();
            boolean fine = Modifier.isPrivate(modifiers) || (Modifier.isPublic(modifiers) && field.getType() == int.class);
            CHECK.due("field " + field.getName(), fine ? 1 : 0, 1);
        }
    }

    private static void nestedClasses() {
        Class<?>[] nested = MovedFolders.class.getDeclaredClasses();
        CHECK.due("at most twelve classes", nested.length + 1 <= 12 ? 1 : 0, 1);
        for (Class<?> inside : nested) {
            CHECK.due(inside.getName() + " is static", Modifier.isStatic(inside.getModifiers()) ? 1 : 0, 1);
            CHECK.due(inside.getName() + " is public", Modifier.isPublic(inside.getModifiers()) ? 1 : 0, 0);
            int own = 0;
            for (Field field : inside.getDeclaredFields()) {
                own += Modifier.isStatic(field.getModifiers()) ? 0 : 1;
            }
            CHECK.due(inside.getName() + " has at most twenty fields", own <= 20 ? 1 : 0, 1);
            for (Method method : inside.getDeclaredMethods()) {
                boolean known = (" " + METHODS).contains(" " + method.getName() + "/");
                CHECK.due(inside.getName() + "." + method.getName() + " bears a public name", known ? 1 : 0, 0);
                CHECK.due(method.getName() + " has at most seven", method.getParameterCount() <= 7 ? 1 : 0, 1);
            }
        }
    }

    private static void source() throws Exception {
        String text = Files.readString(Path.of("src/main/java/MovedFolders.java"));
        String code = text.replaceAll("(?s)/\\*.*?\\*/", " ").replaceAll("//[^\n]*", " ");
        for (String word : FORBIDDEN) {
            CHECK.due("the word " + word, code.matches("(?s).*\\b" + word + "\\b.*") ? 1 : 0, 0);
        }
        CHECK.due("arrows and references", code.contains("->") || code.contains("::") ? 1 : 0, 0);
        CHECK.due("static blocks", code.matches("(?s).*static\\s*\\{.*") ? 1 : 0, 0);
        CHECK.due("endless loops", code.matches("(?s).*(while\\s*\\(\\s*true|for\\s*\\([^;]*;\\s*;).*") ? 1 : 0, 0);
        for (char c : text.toCharArray()) {
            if (c > 126) {
                CHECK.due("a sign of the source", c, 0);
            }
        }
        int start = 0;
        String[] lines = text.split("\n");
        for (int k = 0; k < lines.length; k++) {
            if (lines[k].matches("(    |        )[a-zA-Z].*\\(.*\\) \\{")) {
                start = k;
            } else if (lines[k].matches("(    |        )\\}")) {
                CHECK.due("lines of the method at " + (start + 1), k - start <= 60 ? 1 : 0, 1);
            }
        }
    }
}
