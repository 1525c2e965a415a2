import java.lang.reflect.Field;
import java.lang.reflect.Method;
import java.nio.file.Files;
import java.nio.file.Path;
import java.util.ArrayList;
import java.util.List;
import java.util.Set;
import java.util.TreeSet;
import java.util.regex.Matcher;
import java.util.regex.Pattern;

/** README.md says what is so: its example answers as its comments say, and its tables name all there is. */
public final class ReadmeTest {
    private static final Check CHECK = new Check("ReadmeTest");
    private static final Pattern TOLD = Pattern.compile("for \\(char c : \"(\\S+)\"\\.toCharArray\\(\\)\\) x\\.say\\(c\\);.*");
    private static final Pattern CALL = Pattern.compile("x\\.(\\w+)\\(([^)]*)\\);\\s+// (-?\\d+): .*");
    private static final Pattern ROW = Pattern.compile("\\| `(\\w+)\\(([^)]*)\\)` \\|.*");
    private static final String FIRST = "MovedFolders x = new MovedFolders();";

    public static void main(String[] args) throws Exception {
        String text = Files.readString(Path.of("README.md"));
        example(text.substring(text.indexOf("```java") + 7).split("```")[0].trim().split("\n"));
        calls(text);
        constants(text);
        tests(text);
        CHECK.end();
    }

    private static void example(String[] lines) throws Exception {
        MovedFolders x = new MovedFolders();
        CHECK.same("the first line", lines[0], FIRST);
        for (int k = 1; k < lines.length; k++) {
            Matcher told = TOLD.matcher(lines[k]);
            Matcher call = CALL.matcher(lines[k]);
            if (told.matches()) {
                Check.tell(x, told.group(1));
            } else if (call.matches()) {
                CHECK.due(lines[k], answer(x, call.group(1), numbersOf(call.group(2))), Integer.parseInt(call.group(3)));
            } else {
                CHECK.same("a line of the example", lines[k], "a call with its answer");
            }
        }
    }

    private static Object[] numbersOf(String list) {
        List<Object> all = new ArrayList<>();
        for (String number : list.split(", *")) {
            if (!number.isEmpty()) {
                all.add(Integer.parseInt(number));
            }
        }
        return all.toArray();
    }

    private static int answer(MovedFolders x, String name, Object[] numbers) throws Exception {
        for (Method method : MovedFolders.class.getMethods()) {
            if (method.getName().equals(name) && method.getParameterCount() == numbers.length) {
                return (int) method.invoke(x, numbers);
            }
        }
        throw new IllegalStateException("README.md calls " + name);
    }

    private static void calls(String text) {
        Set<String> rows = new TreeSet<>();
        for (String line : text.split("\n")) {
            Matcher row = ROW.matcher(line);
            if (row.matches()) {
                rows.add(row.group(1) + "/" + (row.group(2).isEmpty() ? 0 : row.group(2).split(",").length));
            }
        }
        Set<String> methods = new TreeSet<>();
        for (Method method : MovedFolders.class.getMethods()) {
            if (method.getDeclaringClass() == MovedFolders.class) {
                methods.add(method.getName() + "/" + method.getParameterCount());
            }
        }
        CHECK.same("the calls of the table", rows.toString(), methods.toString());
    }

    private static void constants(String text) throws Exception {
        for (Field field : MovedFolders.class.getFields()) {
            String told = "`" + field.getName() + "` " + field.getInt(null);
            CHECK.same(field.getName(), text.contains(told) ? told : "not told", told);
        }
    }

    private static void tests(String text) throws Exception {
        try (var files = Files.newDirectoryStream(Path.of("src/test/java"), "*Test.java")) {
            for (Path file : files) {
                String name = file.getFileName().toString().replace(".java", "");
                boolean named = Pattern.compile("(?m)^\\|.*\\b" + name + "\\b.*\\|.*\\|$").matcher(text).find();
                CHECK.same("a row of " + name, named ? "there" : "not there", "there");
            }
        }
    }
}
