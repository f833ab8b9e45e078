import java.io.IOException;
import java.lang.reflect.InvocationTargetException;
import java.lang.reflect.Method;
import java.nio.file.Files;
import java.nio.file.Path;
import java.util.ArrayList;
import java.util.List;
import java.util.Set;
import java.util.TreeSet;
import java.util.regex.Matcher;
import java.util.regex.Pattern;

/**
 * README.md: its example is called line by line, and each answer that stands there must be the class's own; its
 * table names the calls in their order, and the files that it names are there. Run where README.md stands.
 */
final class ReadmeTest {
    private static final List<String> FACE = List.of(
        "frame", "word", "look", "feed", "end", "begin", "run", "about", "at", "sum", "query", "count");
    private static final Pattern CALL =
        Pattern.compile("machine\\.(\\w+)\\(([^)]*)\\);(?:\\s+// (-?\\d+|throws \\w+)(?:: .*)?)?");

    public static void main(String[] args) throws IOException, ReflectiveOperationException {
        Checks checks = new Checks("ReadmeTest");
        String text = Files.readString(Path.of("README.md"));
        example(checks, codeOf(text));
        callsInOrder(checks, text);
        filesAreThere(checks, text);
        checks.finish();
    }

    /** The lines of the only block of Java. */
    private static List<String> codeOf(String text) {
        Matcher block = Pattern.compile("(?s)```java\n(.*?)```").matcher(text);
        List<String> lines = new ArrayList<>();
        while (block.find()) {
            lines.addAll(List.of(block.group(1).split("\n")));
        }
        return lines;
    }

    private static void example(Checks checks, List<String> lines) throws ReflectiveOperationException {
        checks.sentence("an example whose answers are as the class gives them");
        DrawingMachine machine = null;
        Set<String> called = new TreeSet<>();
        int calls = 0;
        for (String line : lines) {
            if (line.isBlank() || line.startsWith("//")) {
                continue;
            }
            if (line.equals("DrawingMachine machine = new DrawingMachine();")) {
                machine = new DrawingMachine();
                continue;
            }
            Matcher call = CALL.matcher(line);
            checks.due("a line that can be called: " + line, call.matches() && machine != null ? 1 : 0, 1);
            if (call.matches() && machine != null) {
                called.add(call.group(1));
                calls++;
                String due = call.group(3) == null ? "nothing" : call.group(3);
                checks.due(line, answer(machine, call.group(1), call.group(2)), due);
            }
        }
        checks.due("calls of the face in the example", called.toString(), new TreeSet<>(FACE).toString());
        checks.due(calls + " calls are at most 512", calls <= 512 ? 1 : 0, 1);
    }

    private static String answer(DrawingMachine machine, String name, String written) throws ReflectiveOperationException {
        Method method = methodOf(name);
        String[] words = written.isBlank() ? new String[0] : written.split(", ");
        Object[] given = new Object[words.length];
        for (int i = 0; i < words.length; i++) {
            boolean isTruth = words[i].equals("true") || words[i].equals("false");
            if (isTruth) {
                given[i] = Boolean.valueOf(words[i]);
            } else {
                given[i] = Integer.valueOf(words[i]);
            }
        }
        try {
            Object answer = method.invoke(machine, given);
            return answer == null ? "nothing" : answer.toString();
        } catch (InvocationTargetException e) {
            return "throws " + e.getCause().getClass().getSimpleName();
        }
    }

    private static Method methodOf(String name) throws NoSuchMethodException {
        for (Method method : DrawingMachine.class.getMethods()) {
            if (method.getName().equals(name)) {
                return method;
            }
        }
        throw new NoSuchMethodException(name);
    }

    private static void callsInOrder(Checks checks, String text) {
        checks.sentence("the calls in their order");
        Matcher row = Pattern.compile("(?m)^\\| `(\\w+)\\(([^)]*)\\)` \\| .* \\| (.*)\\|$").matcher(text);
        List<String> names = new ArrayList<>();
        while (row.find()) {
            names.add(row.group(1));
            if (FACE.contains(row.group(1))) {
                thrownOf(checks, row.group(1), row.group(2), row.group(3));
            }
        }
        List<String> due = new ArrayList<>(List.of("DrawingMachine"));
        due.addAll(FACE);
        checks.due("the table's calls", names.toString(), due.toString());
    }

    /** What the row says of a call's arguments and exceptions is what the class declares. */
    private static void thrownOf(Checks checks, String name, String given, String told) {
        try {
            Method method = methodOf(name);
            checks.due(name + ": how many arguments", given.split(", ").length, method.getParameterCount());
            List<String> declared = new ArrayList<>();
            for (Class<?> one : method.getExceptionTypes()) {
                declared.add(one.getSimpleName());
            }
            List<String> named = new ArrayList<>();
            Matcher exception = Pattern.compile("`(\\w+Exception)`").matcher(told);
            while (exception.find()) {
                named.add(exception.group(1));
            }
            checks.due(name + ": exceptions", named.toString(), declared.toString());
        } catch (NoSuchMethodException e) {
            checks.due(name + " is there", 0, 1);
        }
    }

    private static void filesAreThere(Checks checks, String text) {
        checks.sentence("how to run its tests");
        checks.due(".ci/run is told", text.contains("\n    .ci/run\n") ? 1 : 0, 1);
        checks.due(".ci/run can be run", Files.isExecutable(Path.of(".ci/run")) ? 1 : 0, 1);
        Matcher test = Pattern.compile("\\b([A-Z][A-Za-z]*Test)\\b").matcher(text);
        while (test.find()) {
            Path path = Path.of("src/test/java/" + test.group(1) + ".java");
            checks.due(path + " is there", Files.exists(path) ? 1 : 0, 1);
        }
    }
}
