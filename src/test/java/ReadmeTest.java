import java.io.IOException;
import java.lang.reflect.Method;
import java.lang.reflect.Modifier;
import java.nio.file.Files;
import java.nio.file.Path;
import java.util.Set;
import java.util.TreeSet;
import java.util.regex.Matcher;
import java.util.regex.Pattern;

/** The examples of README.md answer what README.md says, and it names every call and no other. */
public final class ReadmeTest {
    private static final Path README = Path.of("README.md");
    private static final String NEW = "PlaneMaps x = new PlaneMaps();";
    private static final Pattern BLOCK = Pattern.compile("```java\n(.*?)```", Pattern.DOTALL);
    private static final Pattern CALL = Pattern.compile("x\\.(\\w+)\\((.*)\\); +// (-?\\d+|true|false)(:.*)?");
    private static final Pattern ROW = Pattern.compile("(?m)^\\| [^|]*\\|([^|]*)\\|$");
    private static final Pattern NAME = Pattern.compile("`(\\w+)`");

    private static final Check CHECK = new Check("readme");

    public static void main(String[] args) throws IOException, ReflectiveOperationException {
        String text = Files.readString(README);
        int blocks = 0;
        Matcher block = BLOCK.matcher(text);
        while (block.find()) {
            blocks++;
            runExample(block.group(1));
        }
        CHECK.due("examples in " + README, blocks, 3);
        CHECK.due("calls in the table", namesInTable(text).toString(), namesOfCalls().toString());
        CHECK.end();
    }

    private static void runExample(String example) throws ReflectiveOperationException {
        PlaneMaps x = null;
        for (String line : example.split("\n")) {
            Matcher call = CALL.matcher(line);
            if (line.equals(NEW)) {
                x = new PlaneMaps();
            } else if (x != null && call.matches()) {
                CHECK.due(line, answer(x, call.group(1), call.group(2)), call.group(3));
            } else {
                CHECK.due("a line of an example is a call with its answer: " + line, false, true);
            }
        }
    }

    private static String answer(PlaneMaps x, String name, String arguments) throws ReflectiveOperationException {
        Method method = methodOf(name);
        String[] told = arguments.split(", ");
        Object[] values = new Object[told.length];
        for (int i = 0; i < told.length; i++) {
            long value = told[i].equals("PlaneMaps.NONE") ? PlaneMaps.NONE : Long.decode(told[i]);
            if (method.getParameterTypes()[i] == long.class) {
                values[i] = value;
            } else {
                values[i] = Math.toIntExact(value);
            }
        }
        return String.valueOf(method.invoke(x, values));
    }

    private static Method methodOf(String name) {
        for (Method method : PlaneMaps.class.getDeclaredMethods()) {
            if (method.getName().equals(name)) {
                return method;
            }
        }
        throw new IllegalArgumentException("no call " + name);
    }

    private static Set<String> namesInTable(String text) {
        Set<String> names = new TreeSet<>();
        Matcher row = ROW.matcher(text);
        while (row.find()) {
            Matcher name = NAME.matcher(row.group(1));
            while (name.find()) {
                names.add(name.group(1));
            }
        }
        return names;
    }

    private static Set<String> namesOfCalls() {
        Set<String> names = new TreeSet<>();
        for (Method method : PlaneMaps.class.getDeclaredMethods()) {
            if (Modifier.isPublic(method.getModifiers())) {
                names.add(method.getName());
            }
        }
        return names;
    }
}
