import java.io.File;
import java.lang.reflect.Method;
import java.lang.reflect.Modifier;
import java.nio.file.Files;
import java.nio.file.Path;
import java.util.Arrays;
import java.util.List;
import java.util.regex.Matcher;
import java.util.regex.Pattern;

/** README.md tells the truth: its example is run, and its tables name each call and each test. */
public final class ReadmeTest {
    private static final Pattern EXAMPLE = Pattern.compile("node\\.(\\w+)\\(([^)]*)\\);\\s+// (-?\\w+)(:.*)?");
    private static final Pattern SIGNATURE = Pattern.compile("\\| `(\\w+)\\(([^)]*)\\)` \\|.*");
    private static final Checks CHECKS = new Checks();

    public static void main(String[] args) throws Exception {
        List<String> lines = Files.readAllLines(Path.of("README.md"));
        runExample(lines);
        compareCalls(lines);
        compareTests(lines);
        CHECKS.end();
    }

    private static void runExample(List<String> lines) throws Exception {
        ChainNode node = new ChainNode();
        int calls = 0;
        for (String line : lines) {
            if (!line.startsWith("node.")) {
                continue;
            }
            Matcher call = EXAMPLE.matcher(line);
            CHECKS.due("tells its answer: " + line, call.matches(), true);
            if (call.matches()) {
                CHECKS.due(line, answer(node, call.group(1), numbers(call.group(2))), valueOf(call.group(3)));
                calls++;
            }
        }
        CHECKS.due("the example has calls", calls > 0, true);
    }

    private static Integer[] numbers(String listed) {
        if (listed.isEmpty()) {
            return new Integer[0];
        }
        String[] parts = listed.split(", ");
        Integer[] numbers = new Integer[parts.length];
        for (int i = 0; i < parts.length; i++) {
            numbers[i] = Integer.valueOf(parts[i]);
        }
        return numbers;
    }

    private static int answer(ChainNode node, String name, Integer[] arguments) throws Exception {
        Class<?>[] types = new Class<?>[arguments.length];
        Arrays.fill(types, int.class);
        Object answered = ChainNode.class.getMethod(name, types).invoke(node, (Object[]) arguments);
        return valueOf(answered.toString());
    }

    private static int valueOf(String word) {
        return switch (word) {
            case "true" -> 1;
            case "false" -> 0;
            case "REFUSED" -> ChainNode.REFUSED;
            case "FULL" -> ChainNode.FULL;
            default -> Integer.parseInt(word);
        };
    }

    private static void compareCalls(List<String> lines) {
        int rows = 0;
        for (String line : lines) {
            Matcher row = SIGNATURE.matcher(line);
            if (row.matches()) {
                rows++;
                int parameters = row.group(2).isEmpty() ? 0 : row.group(2).split(", ").length;
                CHECKS.due("is a call: " + row.group(1), isCall(row.group(1), parameters), true);
            }
        }
        int calls = 0;
        for (Method method : ChainNode.class.getDeclaredMethods()) {
            calls += Modifier.isPublic(method.getModifiers()) ? 1 : 0;
        }
        CHECKS.due("rows for calls", rows, calls);
    }

    private static boolean isCall(String name, int parameters) {
        for (Method method : ChainNode.class.getDeclaredMethods()) {
            boolean seen = Modifier.isPublic(method.getModifiers());
            if (seen && method.getName().equals(name) && method.getParameterCount() == parameters) {
                return true;
            }
        }
        return false;
    }

    private static void compareTests(List<String> lines) {
        for (File file : new File("src/test/java").listFiles()) {
            String name = file.getName().replace(".java", "");
            if (name.endsWith("Test")) {
                boolean named = lines.stream().anyMatch(line -> line.startsWith("| " + name + " |"));
                CHECKS.due("has a row: " + name, named, true);
            }
        }
    }
}
