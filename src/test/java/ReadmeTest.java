import java.io.IOException;
import java.lang.reflect.InvocationTargetException;
import java.lang.reflect.Method;
import java.lang.reflect.Modifier;
import java.nio.file.DirectoryStream;
import java.nio.file.Files;
import java.nio.file.Path;
import java.util.regex.Matcher;
import java.util.regex.Pattern;

/**
 * README.md says what is so: each line of its examples is done, and answers what stands behind it;
 * every call of the class and every test of the project is named.
 */
public class ReadmeTest extends Kit {
    private static final Pattern LINE = Pattern.compile("t\\.(\\w+)\\((.*)\\); *// (.*)");
    private static final Pattern ANSWER = Pattern.compile("(-?[0-9]+|[A-Z][A-Za-z]+Exception): .*");

    private static Treegrab t;
    private static int examples;
    private static int calls;

    private static Object read(String argument, Class<?> type) {
        if (type == boolean.class) {
            return Boolean.parseBoolean(argument);
        }
        String digits = argument.endsWith("L") ? argument.substring(0, argument.length() - 1) : argument;
        long value = Long.decode(digits);
        return type == long.class ? (Object) value : (Object) (int) value;
    }

    private static String answer(String name, String arguments) throws ReflectiveOperationException {
        for (Method method : Treegrab.class.getMethods()) {
            if (method.getName().equals(name)) {
                String[] written = arguments.isEmpty() ? new String[0] : arguments.split(", *");
                Object[] values = new Object[written.length];
                for (int i = 0; i < written.length; i++) {
                    values[i] = read(written[i], method.getParameterTypes()[i]);
                }
                try {
                    return String.valueOf(method.invoke(t, values));
                } catch (InvocationTargetException e) {
                    return e.getCause().getClass().getSimpleName();
                }
            }
        }
        return "no such call";
    }

    /** Behind feed stands the tape as a text; behind all other calls the answer, and what it means. */
    private static void doLine(String line) throws ReflectiveOperationException {
        if (line.equals("Treegrab t = new Treegrab();")) {
            t = new Treegrab();
            examples++;
            return;
        }
        Matcher call = LINE.matcher(line);
        same(line + " is a call with its answer", "true", String.valueOf(call.matches()));
        if (!call.matches()) {
            return;
        }
        calls++;
        String answer = answer(call.group(1), call.group(2));
        if (call.group(1).equals("feed")) {
            String text = call.group(3);
            same(line, String.valueOf(text.length()), answer);
            same(line, Long.toHexString(packed(text)), Long.toHexString((Long) read(call.group(2).split(",")[0], long.class)));
            return;
        }
        Matcher told = ANSWER.matcher(call.group(3));
        same(line, told.matches() ? told.group(1) : "an answer", answer);
    }

    private static void theExamples(String readme) throws ReflectiveOperationException {
        boolean inside = false;
        for (String line : readme.split("\n")) {
            if (line.startsWith("```")) {
                inside = line.equals("```java");
            } else if (inside) {
                doLine(line);
            }
        }
        same("there are examples", "true", String.valueOf(examples >= 2 && calls >= 16));
    }

    private static void theNames(String readme) throws IOException {
        for (Method method : Treegrab.class.getDeclaredMethods()) {
            if (Modifier.isPublic(method.getModifiers())) {
                boolean named = Pattern.compile("`" + method.getName() + "(\\(i\\))?`").matcher(readme).find();
                same("README.md names " + method.getName(), "true", String.valueOf(named));
            }
        }
        try (DirectoryStream<Path> tests = Files.newDirectoryStream(Path.of("src/test/java"), "*.java")) {
            for (Path test : tests) {
                String name = test.getFileName().toString().replace(".java", "");
                same("README.md names " + name, "true", String.valueOf(readme.contains("`" + name + "`")));
            }
        }
        same("README.md says how to run the tests", "true", String.valueOf(readme.contains("\n    .ci/run\n")));
        same(".ci/run can be run", "true", String.valueOf(Files.isExecutable(Path.of(".ci/run"))));
    }

    public static void main(String[] arguments) throws ReflectiveOperationException, IOException {
        String readme = Files.readString(Path.of("README.md"));
        theExamples(readme);
        theNames(readme);
        end();
    }
}
