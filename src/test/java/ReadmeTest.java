import java.io.IOException;
import java.lang.reflect.Method;
import java.lang.reflect.Modifier;
import java.nio.file.Files;
import java.nio.file.Path;
import java.util.Arrays;
import java.util.List;
import java.util.Set;
import java.util.TreeSet;
import java.util.regex.Matcher;
import java.util.regex.Pattern;

/**
 * What README.md shows of the class's use is what the class answers. Each call of the example stands on a line of
 * its own, with the answer at the beginning of its comment; 'the text is now ...' is compared where it stands.
 */
public final class ReadmeTest extends Checks {
    private static final String MAKES = "RunFinder x = new RunFinder();";
    private static final Pattern CALL = Pattern.compile("x\\.(\\w+)\\(([^)]*)\\); *// ([-\\w]+)(.*)");
    private static final Pattern TEXT = Pattern.compile("the text is now ((?:[0-3] ?)+|empty)");

    public static void main(String[] args) throws IOException {
        String readme = Files.readString(Path.of("README.md"));
        test("README.md: the example", () -> example(readme));
        test("README.md: the table of calls", () -> everyCallHasRow(readme));
        test("README.md: the table of constants", () -> everyConstantHasRow(readme));
        end();
    }

    private static List<String> exampleLines(String readme) {
        int from = readme.indexOf("```java\n") + "```java\n".length();
        return List.of(readme.substring(from, readme.indexOf("```", from)).split("\n"));
    }

    private static void example(String readme) {
        List<String> lines = exampleLines(readme);
        due("the first line", lines.get(0), MAKES);
        RunFinder x = new RunFinder();
        Set<String> shown = new TreeSet<>();
        for (String line : lines.subList(1, lines.size())) {
            Matcher call = CALL.matcher(line);
            due("'" + line + "' is a call with its answer", call.matches(), true);
            if (call.matches()) {
                shown.add(call.group(1));
                exampleCall(x, line, call);
            }
        }
        due("the calls that the example shows", shown, callNames());
    }

    private static void exampleCall(RunFinder x, String line, Matcher call) {
        Object answer = answerOf(x, call.group(1), call.group(2));
        // A call that answers nothing has a comment without an answer.
        if (answer != null) {
            due("'" + line + "'", answer, numberOf(call.group(3)));
        }
        Matcher text = TEXT.matcher(line);
        if (text.find()) {
            due("'" + line + "': the text", textOf(x), text.group(1).replaceAll(" |empty", ""));
        }
    }

    private static Object answerOf(RunFinder x, String name, String arguments) {
        Object[] numbers = Arrays.stream(arguments.split(", ")).filter(a -> !a.isEmpty()).map(Integer::valueOf).toArray();
        Class<?>[] types = new Class<?>[numbers.length];
        Arrays.fill(types, int.class);
        try {
            return RunFinder.class.getMethod(name, types).invoke(x, numbers);
        } catch (ReflectiveOperationException wrong) {
            throw new IllegalStateException(wrong);
        }
    }

    private static int numberOf(String answer) {
        if (!Character.isUpperCase(answer.charAt(0))) {
            return Integer.parseInt(answer);
        }
        try {
            return RunFinder.class.getField(answer).getInt(null);
        } catch (ReflectiveOperationException wrong) {
            throw new IllegalStateException(wrong);
        }
    }

    private static Set<String> callNames() {
        Set<String> names = new TreeSet<>();
        for (Method m : RunFinder.class.getDeclaredMethods()) {
            if (Modifier.isPublic(m.getModifiers())) {
                names.add(m.getName());
            }
        }
        return names;
    }

    private static void everyCallHasRow(String readme) {
        Set<String> rows = new TreeSet<>();
        Matcher row = Pattern.compile("(?m)^\\| `(\\w+)\\(").matcher(readme);
        while (row.find()) {
            rows.add(row.group(1));
        }
        due("the calls of the table", rows, callNames());
    }

    private static void everyConstantHasRow(String readme) {
        Set<String> rows = new TreeSet<>();
        Matcher row = Pattern.compile("(?m)^\\| `([A-Z_]+)` \\| (-\\d+) \\|").matcher(readme);
        while (row.find()) {
            rows.add(row.group(1));
            due("the value of " + row.group(1), numberOf(row.group(1)), Integer.valueOf(row.group(2)));
        }
        due("the constants of the table", rows, Set.of("BAD_LETTER", "FULL", "BAD_PLACE", "NONE"));
    }
}
