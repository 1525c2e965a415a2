import java.lang.reflect.Constructor;
import java.lang.reflect.Field;
import java.lang.reflect.Method;
import java.lang.reflect.Modifier;
import java.util.HashSet;
import java.util.Set;
import java.util.TreeSet;

/** The public face: rule 1 of LANGUAGE.md, and the document's signatures and constants. */
public final class FaceTest {
    private static final Check CHECK = new Check("FaceTest");
    private static final String METHODS = "alike/4 clash/2 copy/1 dest/2 drop/2 entry/2 exchange/0 fault/0 file/3"
        + " image/1 limit/1 moved/3 origin/2 pair/3 put/1 restore/1 say/1 settle/0 told/1 votes/3 wipe/0";

    public static void main(String[] args) throws Exception {
        constants();
        members();
        nestedClasses();
        CHECK.end();
    }

    private static void constants() throws Exception {
        String[] names = {"UNKNOWN", "OUTSIDE", "STATE", "FULL", "NO", "NONE"};
        for (int k = 0; k < names.length; k++) {
            Field field = MovedFolders.class.getField(names[k]);
            CHECK.same(names[k], Modifier.toString(field.getModifiers()), "public static final");
            CHECK.due(names[k], field.getInt(null), -1 - k);
        }
        CHECK.due("constants", MovedFolders.class.getFields().length, 6);
    }

    private static void members() {
        CHECK.same("class", Modifier.toString(MovedFolders.class.getModifiers()), "public final");
        Set<String> open = new TreeSet<>();
        Set<String> names = new HashSet<>();
        for (Method method : MovedFolders.class.getDeclaredMethods()) {
            if (!Modifier.isPrivate(method.getModifiers())) {
                open.add(method.getName() + "/" + method.getParameterCount());
                names.add(method.getName());
                CHECK.same(method.getName(), Modifier.toString(method.getModifiers()), "public");
                CHECK.same(method.getName(), method.getReturnType().getName(), "int");
                for (Class<?> type : method.getParameterTypes()) {
                    CHECK.same(method.getName(), type.getName(), "int");
                }
            }
        }
        CHECK.same("methods", String.join(" ", open), METHODS);
        for (Method method : MovedFolders.class.getDeclaredMethods()) {
            boolean both = Modifier.isPrivate(method.getModifiers()) && names.contains(method.getName());
            CHECK.due("a private " + method.getName(), both ? 1 : 0, 0);
        }
        Constructor<?>[] made = MovedFolders.class.getDeclaredConstructors();
        CHECK.due("constructors", made.length, 1);
        CHECK.same("constructor", Modifier.toString(made[0].getModifiers()), "public");
        CHECK.due("constructor", made[0].getParameterCount(), 0);
        for (Field field : MovedFolders.class.getDeclaredFields()) {
            int modifiers = field.getModifiers();
            boolean fine = Modifier.isPrivate(modifiers) || (Modifier.isPublic(modifiers) && field.getType() == int.class);
            CHECK.due("field " + field.getName(), fine ? 1 : 0, 1);
        }
    }

    private static void nestedClasses() {
        for (Class<?> inside : MovedFolders.class.getDeclaredClasses()) {
            CHECK.due(inside.getName() + " is public", Modifier.isPublic(inside.getModifiers()) ? 1 : 0, 0);
            for (Method method : inside.getDeclaredMethods()) {
                boolean known = (" " + METHODS).contains(" " + method.getName() + "/");
                CHECK.due(inside.getName() + "." + method.getName() + " bears a public name", known ? 1 : 0, 0);
            }
        }
    }
}
