import java.io.IOException;
import java.lang.reflect.Method;
import java.lang.reflect.Modifier;
import java.nio.file.Files;
import java.nio.file.Path;
import java.util.Arrays;
import java.util.HashMap;
import java.util.HashSet;
import java.util.List;
import java.util.Map;
import java.util.Set;
import java.util.regex.Matcher;
import java.util.regex.Pattern;

/**
 * README.md's example answers what README.md says, and README.md leaves out no call and no constant.
 * Run where README.md lies. A line of the example that this test can't read is a fault too: else an
 * answer could stand there that nobody has compared.
 */
public final class ReadmeTest {
    private static final Pattern MAKER = Pattern.compile(
        "EqualJobPlanner planner = new EqualJobPlanner\\((-?\\d+), (-?\\d+)\\); *(//.*)?");
    private static final Pattern CALL = Pattern.compile(
        "(?:(int|boolean) (\\w+) = )?planner\\.(\\w+)\\(([^()]*)\\); *// (-?\\d+|true|false|[A-Z]+)(:.*)?");
    private static final Pattern ROW = Pattern.compile("\\| `(\\w+)\\(([^()]*)\\)` \\|.*");
    private static final Set<String> CONSTANTS = Set.of("BAD", "FULL", "REFUSED", "NONE");

    private static final Map<String, String> rows = new HashMap<>();
    private static final Map<String, Object> variables = new HashMap<>();
    private static final Set<String> made = new HashSet<>();
    private static final Set<String> shown = new HashSet<>();
    private static EqualJobPlanner planner = null;
    private static int compared = 0;
    private static int wrong = 0;

    public static void main(String[] args) throws IOException, ReflectiveOperationException {
        List<String> lines = Files.readAllLines(Path.of("README.md"));
        readRows(lines);
        playExamples(lines);
        leavesNothingOut();
        System.out.println(compared + " answers of README.md compared, " + wrong + " faults");
        if (wrong != 0) {
            System.exit(1);
        }
    }

    private static void wrong(String what) {
        wrong++;
        System.out.println("README.md: " + what);
    }

    private static void readRows(List<String> lines) throws ReflectiveOperationException {
        for (String line : lines) {
            Matcher row = ROW.matcher(line);
            if (row.matches()) {
                rows.put(row.group(1), line);
                methodOf(row.group(1), names(row.group(2)).length);
            }
        }
    }

    private static void playExamples(List<String> lines) throws ReflectiveOperationException {
        boolean inExample = false;
        for (String line : lines) {
            if (line.startsWith("```")) {
                inExample = line.equals("```java");
            } else if (inExample && !line.isEmpty()) {
                play(line);
            }
        }
    }

    private static void play(String line) throws ReflectiveOperationException {
        Matcher maker = MAKER.matcher(line);
        Matcher call = CALL.matcher(line);
        if (maker.matches()) {
            planner = new EqualJobPlanner(Integer.parseInt(maker.group(1)), Integer.parseInt(maker.group(2)));
        } else if (call.matches()) {
            compare(line, call);
        } else {
            wrong("not a call with its answer: " + line);
        }
    }

    private static void compare(String line, Matcher call) throws ReflectiveOperationException {
        String name = call.group(3);
        String[] arguments = names(call.group(4));
        Method method = methodOf(name, arguments.length);
        Object answer = method.invoke(planner, Arrays.stream(arguments).map(ReadmeTest::valueOf).toArray());
        Object told = told(name, call.group(5));
        compared++;
        made.add(name);
        if (!answer.equals(told)) {
            wrong("the class answered " + answer + ": " + line);
        }
        if (call.group(1) != null) {
            declare(line, call.group(1), call.group(2), method, answer);
        }
    }

    private static Object told(String call, String words) throws ReflectiveOperationException {
        if (words.equals("true") || words.equals("false")) {
            return words.equals("true");
        }
        if (!CONSTANTS.contains(words)) {
            return Integer.valueOf(words);
        }
        shown.add(words);
        // BAD and NONE are the same number, so only the table can tell which of them a call answers.
        if (!rows.getOrDefault(call, "").contains("`" + words + "`")) {
            wrong("the table does not say that " + call + " can answer " + words);
        }
        return EqualJobPlanner.class.getField(words).getInt(null);
    }

    private static void declare(String line, String type, String variable, Method method, Object value) {
        if (!method.getReturnType().getName().equals(type) || variables.containsKey(variable)) {
            wrong("Java does not take this: " + line);
        }
        variables.put(variable, value);
    }

    private static Object valueOf(String argument) {
        return variables.containsKey(argument) ? variables.get(argument) : Integer.valueOf(argument);
    }

    private static String[] names(String arguments) {
        return arguments.isEmpty() ? new String[0] : arguments.split(", ");
    }

    private static Method methodOf(String name, int arguments) throws ReflectiveOperationException {
        Class<?>[] types = new Class<?>[arguments];
        Arrays.fill(types, int.class);
        return EqualJobPlanner.class.getMethod(name, types);
    }

    private static void leavesNothingOut() {
        for (Method method : EqualJobPlanner.class.getDeclaredMethods()) {
            String name = method.getName();
            if (Modifier.isPublic(method.getModifiers())) {
                if (!rows.containsKey(name)) {
                    wrong("the table leaves out " + name);
                }
                if (!made.contains(name)) {
                    wrong("the example leaves out " + name);
                }
            }
        }
        for (String constant : CONSTANTS) {
            if (!shown.contains(constant)) {
                wrong("the example leaves out " + constant);
            }
        }
    }
}
