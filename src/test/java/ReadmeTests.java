import java.lang.reflect.Field;
import java.lang.reflect.Method;
import java.lang.reflect.Modifier;
import java.nio.file.Files;
import java.nio.file.Path;
import java.util.ArrayList;
import java.util.Arrays;
import java.util.List;
import java.util.regex.Matcher;
import java.util.regex.Pattern;
import java.util.stream.Stream;

/** README.md: its example answers as it says, and it names every call, every constant and every test. */
public final class ReadmeTests {
    private static final Path README = Path.of("README.md");
    private static final Path TESTS = Path.of("src/test/java");
    private static final Pattern EXAMPLE = Pattern.compile("(?s)```java\n(.*?)```");
    private static final Pattern CALL = Pattern.compile("x\\.(\\w+)\\((.*)\\); +// (-?\\d+)(, .*|; .*)?");
    private static final int LEAST_CALLS = 10;

    private static int wrong = 0;

    private static void fault(String what) {
        wrong++;
        System.out.println("README.md: " + what);
    }

    public static void main(String[] args) throws Exception {
        String text = Files.readString(README);
        runExample(text);
        for (Method method : ComparatorNetworks.class.getDeclaredMethods()) {
            if (Modifier.isPublic(method.getModifiers()) && !text.contains("`" + method.getName() + "`")) {
                fault("the call " + method.getName() + " is not named");
            }
        }
        for (Field field : ComparatorNetworks.class.getDeclaredFields()) {
            if (Modifier.isPublic(field.getModifiers())
                    && !text.contains("| `" + field.getName() + "` | " + field.getInt(null) + " | ")) {
                fault("the constant " + field.getName() + " is not told with its value");
            }
        }
        try (Stream<Path> files = Files.list(TESTS)) {
            for (String name : files.map(file -> file.getFileName().toString().replace(".java", "")).toList()) {
                if (name.endsWith("Tests") && !text.contains("`" + name + "`")) {
                    fault("the test " + name + " is not named");
                }
            }
        }
        System.out.println(wrong == 0 ? "README.md is right" : wrong + " faults");
        if (wrong != 0) System.exit(1);
    }

    private static void runExample(String text) throws Exception {
        Matcher example = EXAMPLE.matcher(text);
        if (!example.find()) {
            fault("there is no example");
            return;
        }
        ComparatorNetworks x = new ComparatorNetworks();
        int calls = 0;
        for (String line : example.group(1).split("\n")) {
            Matcher call = CALL.matcher(line);
            if (call.matches()) {
                calls++;
                long due = Long.parseLong(call.group(3));
                long got = answer(x, call.group(1), call.group(2));
                if (got != due) {
                    fault(line.trim() + " answered " + got);
                }
            } else if (line.startsWith("x.")) {
                fault(line.trim() + " has no answer");
            }
        }
        if (calls < LEAST_CALLS) {
            fault("the example has only " + calls + " calls");
        }
    }

    private static long answer(ComparatorNetworks x, String name, String list) throws Exception {
        List<Object> arguments = new ArrayList<>();
        for (String word : list.isEmpty() ? new String[0] : list.split(", ")) {
            arguments.add(word.startsWith("'") ? (int) word.charAt(1) : Integer.parseInt(word));
        }
        Class<?>[] types = new Class<?>[arguments.size()];
        Arrays.fill(types, int.class);
        Method method = ComparatorNetworks.class.getMethod(name, types);
        return ((Number) method.invoke(x, arguments.toArray())).longValue();
    }
}
