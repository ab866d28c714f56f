import java.io.IOException;
import java.lang.reflect.Method;
import java.lang.reflect.Modifier;
import java.nio.file.Files;
import java.nio.file.Path;
import java.util.ArrayList;
import java.util.HashMap;
import java.util.List;
import java.util.Map;
import java.util.Set;
import java.util.TreeSet;
import java.util.regex.Matcher;
import java.util.regex.Pattern;

/** README.md is read, and what it says is done: its example, its games, its tables of calls and errors. */
public final class ReadmeTest {
    private static final Check CHECK = new Check();
    private static final Path README = Path.of("README.md");
    private static final Path DOCUMENT = Path.of("..", "shared", "DOC.md");
    private static final Pattern EXAMPLE = Pattern.compile("tag\\.(\\w+)\\(([^)]*)\\); *// (\\w+|-\\d+): .*");
    private static final Pattern GAME = Pattern.compile("\\| `([^`]+)` \\| (-?\\d+) \\| .*");
    private static final Pattern CALL = Pattern.compile("\\| `(\\w+)\\(([^)]*)\\)` \\| .* \\| ?([^|]*)\\|");
    private static final Pattern CONSTANT = Pattern.compile("\\| `([A-Z_]+)` \\| (-\\d+) \\| .*");
    private static final Pattern ERROR = Pattern.compile("\\b(UNKNOWN|BAD_VALUE|FULL|NOT_POSSIBLE|NONE)\\b|-100");

    private final Map<String, Method> methods = new HashMap<>();
    private final Map<String, Integer> constants = new HashMap<>();
    private final List<String> lines;

    private ReadmeTest() throws IOException, ReflectiveOperationException {
        lines = Files.readAllLines(README);
        for (Method method : ShadowTag.class.getDeclaredMethods()) {
            if (Modifier.isPublic(method.getModifiers())) {
                methods.put(method.getName(), method);
            }
        }
        for (String name : new String[] {"UNKNOWN", "BAD_VALUE", "FULL", "NOT_POSSIBLE", "NONE"}) {
            constants.put(name, ShadowTag.class.getField(name).getInt(null));
        }
    }

    public static void main(String[] args) throws IOException, ReflectiveOperationException {
        ReadmeTest test = new ReadmeTest();
        test.example();
        test.games();
        test.tableOfConstants();
        test.tableOfCalls();
        CHECK.end("ReadmeTest");
    }

    private List<Matcher> matching(Pattern pattern, int least) {
        List<Matcher> all = new ArrayList<>();
        for (String line : lines) {
            Matcher matcher = pattern.matcher(line);
            if (matcher.matches()) {
                all.add(matcher);
            }
        }
        CHECK.holds("there are lines like " + pattern, all.size() >= least);
        return all;
    }

    private void example() throws ReflectiveOperationException {
        CHECK.about("the example");
        ShadowTag tag = new ShadowTag();
        for (Matcher line : matching(EXAMPLE, 10)) {
            int answer = (int) methods.get(line.group(1)).invoke(tag, arguments(line.group(2)));
            String due = line.group(3);
            CHECK.due(line.group(), answer, constants.containsKey(due) ? constants.get(due) : Integer.parseInt(due));
        }
    }

    private static Object[] arguments(String list) {
        if (list.isBlank()) {
            return new Object[0];
        }
        String[] parts = list.split(", ");
        Object[] values = new Object[parts.length];
        for (int i = 0; i < parts.length; i++) {
            values[i] = Integer.valueOf(parts[i]);
        }
        return values;
    }

    private void games() {
        CHECK.about("the games");
        for (Matcher line : matching(GAME, 4)) {
            ShadowTag tag = new ShadowTag();
            if (!constants.containsKey(line.group(1))) {
                int due = Integer.parseInt(line.group(2));
                CHECK.due(line.group(1), Check.perform(tag, line.group(1)), due);
                CHECK.due("runners after " + line.group(1), tag.count(1), due < 0 ? 0 : 2);
                CHECK.due("stopped(0)", tag.stopped(0), due == ShadowTag.NOT_POSSIBLE ? 1 : ShadowTag.NONE);
                CHECK.due("stopped(1)", tag.stopped(1), due == ShadowTag.NOT_POSSIBLE ? ShadowTag.UNKNOWN : ShadowTag.NONE);
            }
        }
    }

    private void tableOfConstants() {
        CHECK.about("the table of errors");
        Set<String> found = new TreeSet<>();
        for (Matcher line : matching(CONSTANT, 5)) {
            found.add(line.group(1));
            CHECK.due(line.group(1), Integer.parseInt(line.group(2)), constants.getOrDefault(line.group(1), 0));
        }
        CHECK.holds("it has each constant", found.equals(constants.keySet()));
    }

    /** Each call stands in the table, with the errors that the document tells, in its order. */
    private void tableOfCalls() throws IOException {
        CHECK.about("the table of calls");
        Map<String, String> due = Files.isReadable(DOCUMENT) ? errorsOfTheDocument() : null;
        Set<String> found = new TreeSet<>();
        for (Matcher line : matching(CALL, 24)) {
            String name = line.group(1);
            found.add(name);
            CHECK.holds(name + " is a call", methods.containsKey(name));
            int arguments = line.group(2).isEmpty() ? 0 : line.group(2).split(", ").length;
            CHECK.due("arguments of " + name, arguments, methods.containsKey(name) ? methods.get(name).getParameterCount() : -1);
            String errors = errorsIn(line.group(3));
            CHECK.holds("the errors of " + name + " are " + errors, due == null || errors.equals(due.get(name)));
        }
        CHECK.holds("it has each call", found.equals(methods.keySet()));
    }

    private static Map<String, String> errorsOfTheDocument() throws IOException {
        Map<String, String> errors = new HashMap<>();
        String name = "";
        for (String line : Files.readAllLines(DOCUMENT)) {
            if (line.matches("## Promise \\d+: \\w+")) {
                name = line.replaceAll(".*: ", "");
            } else if (line.startsWith("Returns ")) {
                errors.put(name, errorsIn(line));
            }
        }
        // The document tells this NONE where it says what can be counted.
        errors.computeIfPresent("count", (call, told) -> told + "NONE ");
        return errors;
    }

    private static String errorsIn(String line) {
        StringBuilder errors = new StringBuilder();
        Matcher matcher = ERROR.matcher(line);
        while (matcher.find()) {
            errors.append(matcher.group()).append(' ');
        }
        return errors.toString();
    }
}
