import java.lang.reflect.Constructor;
import java.lang.reflect.Executable;
import java.lang.reflect.Field;
import java.lang.reflect.Method;
import java.lang.reflect.Modifier;
import java.nio.file.Files;
import java.nio.file.Path;
import java.util.ArrayList;
import java.util.List;
import java.util.Set;
import java.util.TreeSet;
import java.util.regex.Matcher;
import java.util.regex.Pattern;

/** The rules of LANGUAGE.md that can be read off the class and its text, and the face of the document. */
public final class LanguageTest {
    private static final Due due = new Due();
    private static final String SOURCE = "src/main/java/SwingDesk.java";
    private static final String[] FACE = {"track 1", "in 4", "lift 3", "lay 3", "told 3", "person 2", "isOf 2", "own 2",
        "did 2", "fresh 2", "rehearse 2", "feud 3", "days 1", "out 2", "cast 1", "has 1", "who 1", "done 1", "hurt 2",
        "at 2", "plan 0", "putIn 1", "sheet 2", "mark 3", "copy 5", "count 1"};
    private static final Set<String> CONSTANTS =
            Set.of("BAD", "NO", "FULL", "SPENT", "NONE", "NOTHING", "INDEX", "SIZE");
    private static final Set<String> LIBRARY = Set.of("Arrays.fill", "Arrays.copyOf", "Arrays.copyOfRange",
            "System.arraycopy", "Math.abs", "Math.min", "Math.max", "Integer.bitCount");

    public static void main(String[] args) throws Exception {
        face();
        constants();
        classesInside();
        String code = Files.readString(Path.of(SOURCE)).replaceAll("(?s)/\\*.*?\\*/", " ").replaceAll("//[^\n]*", " ");
        words(code);
        library(code);
        methodLengths();
        due.end();
    }

    private static void face() {
        Set<String> due26 = new TreeSet<>(List.of(FACE));
        Set<String> names = new TreeSet<>();
        Set<String> found = new TreeSet<>();
        for (String one : FACE) {
            names.add(one.split(" ")[0]);
        }
        for (Method m : SwingDesk.class.getDeclaredMethods()) {
            if (Modifier.isPublic(m.getModifiers())) {
                found.add(m.getName() + " " + m.getParameterCount());
                due.holds("face: int " + m.getName(), m.getReturnType() == int.class && !Modifier.isStatic(m.getModifiers()));
            } else {
                due.holds("rule 1: private " + m.getName(), Modifier.isPrivate(m.getModifiers()));
                due.holds("rule 1: name of a public one: " + m.getName(), !names.contains(m.getName()));
            }
        }
        due.holds("face: " + found, found.equals(due26));
        int of = SwingDesk.class.getModifiers();
        due.holds("face: public final", Modifier.isPublic(of) && Modifier.isFinal(of));
        Constructor<?>[] made = SwingDesk.class.getDeclaredConstructors();
        due.holds("face: one public constructor", made.length == 1 && Modifier.isPublic(made[0].getModifiers())
                && made[0].getParameterCount() == 0);
    }

    private static void constants() throws Exception {
        int seen = 0;
        for (Field f : SwingDesk.class.getDeclaredFields()) {
            if (Modifier.isPrivate(f.getModifiers())) {
                continue;
            }
            due.holds("rule 1: field " + f.getName(), CONSTANTS.contains(f.getName()));
            due.is("constant " + f.getName(), f.getInt(null), Due.class.getDeclaredField(f.getName()).getInt(null));
            seen++;
        }
        due.is("face: constants", seen, CONSTANTS.size());
    }

    private static void classesInside() {
        List<Class<?>> all = new ArrayList<>(List.of(SwingDesk.class.getDeclaredClasses()));
        for (Class<?> one : all) {
            due.holds("rule 2: static " + one.getName(), Modifier.isStatic(one.getModifiers()));
            due.holds("rule 1: hidden " + one.getName(),
                    !Modifier.isPublic(one.getModifiers()) && !Modifier.isProtected(one.getModifiers()));
        }
        all.add(SwingDesk.class);
        due.holds("rule 11: twelve classes", all.size() <= 12);
        for (Class<?> one : all) {
            fieldsOf(one);
            List<Executable> calls = new ArrayList<>(List.of(one.getDeclaredMethods()));
            calls.addAll(List.of(one.getDeclaredConstructors()));
            for (Executable call : calls) {
                due.holds("rule 11: seven parameters " + call, call.getParameterCount() <= 7);
            }
        }
    }

    private static void fieldsOf(Class<?> one) {
        int own = 0;
        for (Field f : one.getDeclaredFields()) {
            if (Modifier.isStatic(f.getModifiers())) {
                due.holds("rule 5: final " + f, Modifier.isFinal(f.getModifiers()));
            } else {
                own++;
            }
        }
        due.holds("rule 11: twenty fields of " + one.getName(), own <= 20);
    }

    private static void words(String code) {
        String[] none = {"\\bthrow\\b", "\\bthrows\\b", "\\btry\\b", "\\bcatch\\b", "\\bsynchronized\\b", "\\bassert\\b",
            "->", "::", "\\bpackage\\b", "\\w+Exact\\b", "\\bhashCode\\b", "\\btoString\\b", "\\bequals\\b", "\\bprotected\\b",
            "\\bstatic\\s*\\{", "\\bObject\\b", "\\bMap\\b", "\\bvar\\b", "[^\\x00-\\x7f]"};
        for (String one : none) {
            due.holds("rules 4 and 6: " + one, !Pattern.compile(one).matcher(code).find());
        }
        Matcher imports = Pattern.compile("import\\s+([\\w.*]+);").matcher(code);
        while (imports.find()) {
            due.holds("rule 4: import " + imports.group(1), imports.group(1).equals("java.util.Arrays"));
        }
    }

    private static void library(String code) {
        Matcher used = Pattern.compile("\\b(Arrays|System|Math|Integer|Long|String|StringBuilder|List)\\.(\\w+)").matcher(code);
        while (used.find()) {
            boolean isImport = used.start() > 0 && code.charAt(used.start() - 1) == '.';
            due.holds("rule 4: " + used.group(), isImport || LIBRARY.contains(used.group()));
        }
    }

    /** A method's first line ends in "{" and its last is a lone "}" in the same column. */
    private static void methodLengths() throws Exception {
        List<String> lines = Files.readAllLines(Path.of(SOURCE));
        for (int i = 0; i < lines.size(); i++) {
            Matcher begin = Pattern.compile("^( {4}| {8})\\S.*\\).*\\{$").matcher(lines.get(i));
            if (!begin.matches()) {
                continue;
            }
            int end = i;
            while (end < lines.size() && !lines.get(end).equals(begin.group(1) + "}")) {
                end++;
            }
            due.holds("rule 11: sixty lines: " + lines.get(i), end - i <= 60);
        }
    }
}
