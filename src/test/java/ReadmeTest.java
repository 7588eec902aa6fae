import java.io.IOException;
import java.lang.reflect.Method;
import java.nio.file.Files;
import java.nio.file.Path;
import java.util.HashMap;
import java.util.HashSet;
import java.util.Map;
import java.util.Set;
import java.util.TreeSet;
import java.util.regex.Matcher;
import java.util.regex.Pattern;

/** README.md: its calls, one behind the other on one object, answer what stands beside them. */
public final class ReadmeTest {
    private static final Pattern CALL =
        Pattern.compile("(?:int (\\w+) = )?x\\.(\\w+)\\((.*)\\); *// (-?\\d+)(?: \\((\\w+)\\))?(?::.*)?");
    private static final Map<String, Integer> names = new HashMap<>();
    private static final Set<String> shown = new HashSet<>();
    private static int wrong = 0;

    public static void main(String[] args) throws IOException, ReflectiveOperationException {
        String page = Files.readString(Path.of("README.md"));
        checkExamples(page);
        checkFaceIsNamed(page);
        checkTestsAreNamed(page);
        System.out.println(wrong == 0 ? "README.md tells what is so" : wrong + " lines of README.md are wrong");
        if (wrong != 0) {
            System.exit(1);
        }
    }

    private static void demand(boolean kept, String what) {
        if (!kept) {
            wrong++;
            System.out.println("README.md: " + what);
        }
    }

    private static void checkExamples(String page) throws ReflectiveOperationException {
        UnitTurns x = new UnitTurns();
        Matcher blocks = Pattern.compile("(?s)```java\n(.*?)```").matcher(page);
        int calls = 0;
        while (blocks.find()) {
            for (String line : blocks.group(1).split("\n")) {
                if (!line.equals("UnitTurns x = new UnitTurns();")) {
                    checkLine(x, line);
                    calls++;
                }
            }
        }
        demand(calls > 0, "there are no examples");
    }

    private static void checkLine(UnitTurns x, String line) throws ReflectiveOperationException {
        Matcher m = CALL.matcher(line);
        demand(m.matches(), "a line that can't be read: " + line);
        if (!m.matches()) {
            return;
        }
        String[] parts = m.group(3).isEmpty() ? new String[0] : m.group(3).split(", ");
        Class<?>[] types = new Class<?>[parts.length];
        Object[] values = new Object[parts.length];
        for (int n = 0; n < parts.length; n++) {
            types[n] = int.class;
            values[n] = value(parts[n]);
        }
        Method method = UnitTurns.class.getMethod(m.group(2), types);
        int answer = (int) method.invoke(x, values);
        demand(answer == Integer.parseInt(m.group(4)), line + " answered " + answer);
        demand(m.group(5) == null || UnitTurns.class.getField(m.group(5)).getInt(null) == answer, "the name in " + line);
        if (m.group(1) != null) {
            names.put(m.group(1), answer);
        }
        shown.add(m.group(2));
    }

    private static int value(String text) throws ReflectiveOperationException {
        int sum = 0;
        for (String part : text.split(" \\+ ")) {
            if (part.matches("-?\\d+")) {
                sum += Integer.parseInt(part);
            } else if (part.matches("'.'")) {
                sum += part.charAt(1);
            } else if (part.startsWith("UnitTurns.")) {
                sum += UnitTurns.class.getField(part.substring(10)).getInt(null);
            } else {
                demand(names.containsKey(part), "an unknown name: " + part);
                sum += names.getOrDefault(part, 0);
            }
        }
        return sum;
    }

    private static void checkFaceIsNamed(String page) {
        Set<String> missing = new TreeSet<>();
        for (Method method : UnitTurns.class.getDeclaredMethods()) {
            boolean open = java.lang.reflect.Modifier.isPublic(method.getModifiers());
            if (open && !shown.contains(method.getName()) && !page.contains("`" + method.getName() + "()`")) {
                missing.add(method.getName());
            }
        }
        demand(missing.isEmpty(), "calls that are not shown: " + missing);
    }

    private static void checkTestsAreNamed(String page) throws IOException {
        try (var files = Files.list(Path.of("src/test/java"))) {
            for (Path file : (Iterable<Path>) files::iterator) {
                String name = file.getFileName().toString().replace(".java", "");
                demand(!name.endsWith("Test") || page.contains("`" + name + "`"), "a test that is not named: " + name);
            }
        }
    }
}
