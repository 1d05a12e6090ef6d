import java.io.IOException;
import java.lang.reflect.Method;
import java.lang.reflect.Modifier;
import java.nio.file.DirectoryStream;
import java.nio.file.Files;
import java.nio.file.Path;
import java.util.List;
import java.util.regex.Matcher;
import java.util.regex.Pattern;

/** README.md: its example's answers are those of the class, and it names every call and every test. */
public final class ReadmeTest {
    private static final Check check = new Check("ReadmeTest");
    private static final Pattern TYPED = Pattern.compile("type\\(court, \"(.*)\"\\);");
    private static final Pattern ASKED = Pattern.compile("court\\.(\\w+)\\((.*)\\); *// (-?\\d+): .*");
    private static final int FEWEST_CALLS = 20;

    private static CommaCourt court;
    private static int called;

    public static void main(String[] args) throws IOException, ReflectiveOperationException {
        List<String> lines = Files.readAllLines(Path.of("README.md"));
        for (String line : lines) {
            tryLine(line);
        }
        check.dueTrue("the example has calls", called >= FEWEST_CALLS);
        String text = String.join("\n", lines);
        namesCalls(text);
        namesTests(text);
        check.end();
    }

    /** Does what a line of the example does; all other lines begin otherwise. */
    private static void tryLine(String line) throws ReflectiveOperationException {
        Matcher typed = TYPED.matcher(line);
        Matcher asked = ASKED.matcher(line);
        if (line.equals("CommaCourt court = new CommaCourt();")) {
            court = new CommaCourt();
        } else if (typed.matches()) {
            Check.type(court, typed.group(1));
        } else if (asked.matches()) {
            called++;
            check.due(line, answer(asked.group(1), asked.group(2)), Long.parseLong(asked.group(3)));
        } else {
            check.dueTrue("an example's line that can be read: " + line, !line.startsWith("court."));
        }
    }

    private static int answer(String name, String arguments) throws ReflectiveOperationException {
        String[] written = arguments.isEmpty() ? new String[0] : arguments.split(", ");
        Object[] values = new Object[written.length];
        Class<?>[] types = new Class<?>[written.length];
        for (int place = 0; place < written.length; place++) {
            values[place] = value(written[place]);
            types[place] = values[place] instanceof Boolean ? boolean.class : int.class;
        }
        return (int) CommaCourt.class.getMethod(name, types).invoke(court, values);
    }

    private static Object value(String written) throws ReflectiveOperationException {
        if (written.equals("true") || written.equals("false")) {
            return Boolean.valueOf(written);
        }
        if (written.startsWith("CommaCourt.")) {
            return CommaCourt.class.getField(written.substring("CommaCourt.".length())).get(null);
        }
        return Integer.valueOf(written);
    }

    private static void namesCalls(String text) {
        for (Method method : CommaCourt.class.getDeclaredMethods()) {
            if (Modifier.isPublic(method.getModifiers())) {
                check.dueTrue("the call " + method.getName() + " is named",
                        text.contains("`" + method.getName() + "`"));
            }
        }
    }

    private static void namesTests(String text) throws IOException {
        try (DirectoryStream<Path> tests = Files.newDirectoryStream(Path.of("src/test/java"), "*Test.java")) {
            for (Path test : tests) {
                String name = test.getFileName().toString().replace(".java", "");
                check.dueTrue("the test " + name + " is named", text.contains("| `" + name + "` |"));
            }
        }
    }
}
