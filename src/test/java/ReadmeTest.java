import java.lang.reflect.Method;
import java.nio.file.Files;
import java.nio.file.Path;
import java.util.Set;
import java.util.TreeSet;
import java.util.regex.Matcher;
import java.util.regex.Pattern;

/** README.md says how to use the class: its example answers what it says, and its table has every call of the face. */
public final class ReadmeTest {
    private static final Due due = new Due();

    public static void main(String[] args) throws Exception {
        String text = Files.readString(Path.of("README.md"));
        example(text.substring(text.indexOf("```java"), text.indexOf("```\n", text.indexOf("```java"))));
        table(text);
        due.end();
    }

    private static void example(String code) throws Exception {
        SwingDesk desk = new SwingDesk();
        Matcher line = Pattern.compile("^desk\\.(\\w+)\\(([^)]*)\\);\\s*// (\\w+)", Pattern.MULTILINE).matcher(code);
        int calls = 0;
        while (line.find()) {
            due.is(line.group(), answer(desk, line.group(1), line.group(2)), number(line.group(3)));
            calls++;
        }
        due.is("every line of the example is a call", calls, code.lines().count() - 2);
    }

    private static int answer(SwingDesk desk, String name, String arguments) throws Exception {
        String[] each = arguments.isEmpty() ? new String[0] : arguments.split(", ");
        Object[] numbers = new Object[each.length];
        Class<?>[] types = new Class<?>[each.length];
        for (int i = 0; i < each.length; i++) {
            numbers[i] = number(each[i]);
            types[i] = int.class;
        }
        return (int) SwingDesk.class.getMethod(name, types).invoke(desk, numbers);
    }

    private static int number(String text) throws Exception {
        return Character.isLetter(text.charAt(0)) ? SwingDesk.class.getField(text).getInt(null) : Integer.parseInt(text);
    }

    private static void table(String text) {
        Set<String> face = new TreeSet<>();
        for (Method one : SwingDesk.class.getDeclaredMethods()) {
            if (java.lang.reflect.Modifier.isPublic(one.getModifiers())) {
                face.add(one.getName() + " " + one.getParameterCount());
            }
        }
        Set<String> told = new TreeSet<>();
        Matcher row = Pattern.compile("^\\| `(\\w+)\\(([^)]*)\\)` \\|", Pattern.MULTILINE).matcher(text);
        while (row.find()) {
            told.add(row.group(1) + " " + (row.group(2).isEmpty() ? 0 : row.group(2).split(", ").length));
        }
        due.holds("the table has every call: " + told, told.equals(face));
    }
}
