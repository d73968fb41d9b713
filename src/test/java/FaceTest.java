import java.io.IOException;
import java.lang.reflect.Constructor;
import java.lang.reflect.Field;
import java.lang.reflect.Method;
import java.lang.reflect.Modifier;
import java.nio.file.Files;
import java.nio.file.Path;
import java.util.ArrayList;
import java.util.Arrays;
import java.util.List;
import java.util.TreeSet;

/**
 * The face that the document prints, and no more of it; and what of LANGUAGE.md can be seen
 * from the compiled classes and from the lines of the source.
 */
public class FaceTest {
    private static final String IAE = "IllegalArgumentException";
    private static final String ISE = "IllegalStateException";
    private static final String IOOBE = "IndexOutOfBoundsException";

    private static final String[] FACE = {
        "int feed(long, int) " + IAE + " " + ISE,
        "int plant(int) " + IOOBE + " " + ISE,
        "int pattern() " + ISE,
        "int script() " + ISE,
        "int fault(boolean)",
        "int nodes(int) " + IOOBE,
        "int parent(int, int) " + IOOBE,
        "int children(int, int) " + IOOBE,
        "int wordOf(int, int, boolean) " + IOOBE,
        "int withLabel(int) " + IOOBE,
        "int withLabelByWalk(int) " + IOOBE,
        "int matches(int) " + IOOBE,
        "int matchesByTrying(int) " + IOOBE,
        "int matchAt(int, int, int) " + IOOBE,
        "int matchAtByTrying(int, int, int) " + IOOBE,
        "int planAt(int, int) " + IOOBE,
        "int edit(int) " + IOOBE + " " + ISE,
        "int undo(int) " + IOOBE + " " + ISE,
        "int show(int) " + IOOBE,
        "int label(int, int) " + IOOBE,
        "long word(int)",
    };

    private static final String[] SECTIONS = {
        "// ---- the tape, and who takes it over", "public int feed(",
        "// ---- trees", "public int nodes(",
        "// ---- matches", "public int matches(",
        "// ---- edits", "public int edit(",
        "// ---- the out", "public int show(",
    };

    private static final String[] RULED_OUT = {
        "import ", "package ", "->", "::", "finally", "synchronized", "assert ", "static {", "catch", " try ",
        "protected ", "Exact(", "System.", "Math.random", "hashCode", "@Override", "instanceof", "float ", "double ",
        "[][]", "goto", "native ", "volatile", "getClass", "Thread", "String.format", " var ",
    };

    private static int asked;
    private static int wrong;

    private static void hold(String what, boolean so) {
        asked++;
        if (!so) {
            wrong++;
            System.out.println("not so: " + what);
        }
    }

    private static String told(Method method) {
        List<String> parameters = new ArrayList<>();
        for (Class<?> parameter : method.getParameterTypes()) {
            parameters.add(parameter.getSimpleName());
        }
        StringBuilder text = new StringBuilder();
        text.append(method.getReturnType().getSimpleName()).append(' ').append(method.getName());
        text.append('(').append(String.join(", ", parameters)).append(')');
        for (Class<?> thrown : method.getExceptionTypes()) {
            text.append(' ').append(thrown.getSimpleName());
        }
        return text.toString();
    }

    private static void theFace() throws ReflectiveOperationException {
        Class<Treegrab> type = Treegrab.class;
        hold("public and final", type.getModifiers() == (Modifier.PUBLIC | Modifier.FINAL));
        hold("no other above it", type.getSuperclass() == Object.class && type.getInterfaces().length == 0);
        TreeSet<String> visible = new TreeSet<>();
        TreeSet<String> names = new TreeSet<>();
        for (Method method : type.getDeclaredMethods()) {
            if (!Modifier.isPrivate(method.getModifiers())) {
                hold(method + " is an ordinary public method", method.getModifiers() == Modifier.PUBLIC);
                visible.add(told(method));
                names.add(method.getName());
            }
        }
        hold("the methods are those of the face, not " + visible, visible.equals(new TreeSet<>(Arrays.asList(FACE))));
        Constructor<?>[] constructors = type.getDeclaredConstructors();
        hold("one public constructor", constructors.length == 1 && constructors[0].getParameterCount() == 0
            && constructors[0].getModifiers() == Modifier.PUBLIC && constructors[0].getExceptionTypes().length == 0);
        for (Field field : type.getDeclaredFields()) {
            hold(field + " is private", Modifier.isPrivate(field.getModifiers()) || field.getName().equals("NONE"));
        }
        Field none = type.getField("NONE");
        hold("NONE", none.getType() == int.class && none.getInt(null) == -1
            && none.getModifiers() == (Modifier.PUBLIC | Modifier.STATIC | Modifier.FINAL));
        noPrivateNamesOf(type, names);
        insideClasses(type, names);
    }

    private static void noPrivateNamesOf(Class<?> type, TreeSet<String> names) {
        for (Method method : type.getDeclaredMethods()) {
            if (Modifier.isPrivate(method.getModifiers())) {
                hold(method + " bears no name of the face", !names.contains(method.getName()));
                hold(method + " has at most seven parameters", method.getParameterCount() <= 7);
            }
        }
    }

    private static void insideClasses(Class<?> type, TreeSet<String> names) {
        hold("at most twelve classes", type.getDeclaredClasses().length < 12);
        for (Class<?> inside : type.getDeclaredClasses()) {
            hold(inside + " is private and static",
                Modifier.isPrivate(inside.getModifiers()) && Modifier.isStatic(inside.getModifiers()));
            noPrivateNamesOf(inside, names);
            fieldsOf(inside);
            for (Method method : inside.getDeclaredMethods()) {
                hold(method + " is private", Modifier.isPrivate(method.getModifiers()));
            }
        }
        fieldsOf(type);
    }

    private static void fieldsOf(Class<?> type) {
        int own = 0;
        for (Field field : type.getDeclaredFields()) {
            boolean fixed = Modifier.isStatic(field.getModifiers());
            own += fixed ? 0 : 1;
            hold(field + " is final if static", !fixed || Modifier.isFinal(field.getModifiers()));
        }
        hold(type + " has at most twenty fields", own <= 20);
    }

    private static void theSource(List<String> lines) {
        String whole = String.join("\n", lines);
        for (int i = 0; i < SECTIONS.length; i += 2) {
            int section = whole.indexOf("\n    " + SECTIONS[i] + "\n");
            hold(SECTIONS[i], section > 0 && whole.indexOf("    public ", section) == whole.indexOf("    " + SECTIONS[i + 1]));
        }
        int begun = -1;
        for (int i = 0; i < lines.size(); i++) {
            String line = lines.get(i);
            String code = bare(line);
            for (String out : RULED_OUT) {
                hold("line " + (i + 1) + " without " + out, !code.contains(out));
            }
            hold("line " + (i + 1) + " is short", line.length() <= 120);
            hold("line " + (i + 1) + " joins no texts by +", !line.contains("\" +") && !line.contains("+ \""));
            hold("line " + (i + 1) + " throws a new one", !code.contains("throw ") || code.contains("throw new "));
            boolean head = code.matches("( {4}| {8})(private|public) .*\\) (throws .*)?\\{");
            begun = head ? i : begun;
            if (begun >= 0 && code.matches("( {4}| {8})\\}") && code.indexOf('}') == indent(lines.get(begun))) {
                hold("the method of line " + (begun + 1) + " is short", i - begun <= 60);
                begun = -1;
            }
        }
    }

    private static int indent(String line) {
        return line.length() - line.stripLeading().length();
    }

    /** A line without its comment and its texts. */
    private static String bare(String line) {
        String stripped = line.strip();
        boolean comment = stripped.startsWith("//") || stripped.startsWith("*") || stripped.startsWith("/*");
        return comment ? "" : line.replaceAll("\"[^\"]*\"", "\"\"");
    }

    public static void main(String[] arguments) throws ReflectiveOperationException, IOException {
        theFace();
        theSource(Files.readAllLines(Path.of("src/main/java/Treegrab.java")));
        System.out.println(asked + " asked, " + wrong + " wrong");
        if (wrong > 0) {
            System.exit(1);
        }
    }
}
