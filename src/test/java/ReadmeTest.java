import java.io.IOException;
import java.lang.reflect.Method;
import java.lang.reflect.Modifier;
import java.nio.file.DirectoryStream;
import java.nio.file.Files;
import java.nio.file.Path;
import java.util.ArrayList;
import java.util.Arrays;
import java.util.List;
import java.util.Map;
import java.util.Set;
import java.util.TreeMap;
import java.util.TreeSet;
import java.util.regex.Matcher;
import java.util.regex.Pattern;

/** The calls that README.md shows answer as it says, and it tells of every method and every test. */
final class ReadmeTest {
    private static final String NEW_OBJECT = "ReshapeArray array = new ReshapeArray();";
    private static final Pattern CALL =
        Pattern.compile("array\\.(\\w+)\\(([^()]*)\\); +// (-?\\d+)(?:: .+)?");
    private static final Pattern METHOD_ROW = Pattern.compile("\\| `(\\w+)\\(([^()]*)\\)` \\|.*");
    private static final Pattern REFUSAL = Pattern.compile("`(-\\d+)`");
    private static final Pattern TEST_ROW = Pattern.compile("\\| `(\\w+Test)` \\|.*");
    // These may answer less than 0 without refusing anything.
    private static final Set<String> NEVER_REFUSING = Set.of("failed", "read", "sum");

    private static ReshapeArray array;
    private static final Map<String, Set<Integer>> shownRefusals = new TreeMap<>();
    private static final Set<String> shownMethods = new TreeSet<>();

    private ReadmeTest() {
    }

    public static void main(String[] args) throws IOException, ReflectiveOperationException {
        List<String> lines = Files.readAllLines(Path.of("README.md"));
        runShownCalls(lines);
        checkMethodTable(lines);
        checkTestTable(lines);
        Due.due("README.md shows how the tests are run", lines.contains(".ci/run") ? 1 : 0, 1);
        Due.finish();
    }

    private static void runShownCalls(List<String> lines) throws ReflectiveOperationException {
        boolean inJava = false;
        for (int i = 0; i < lines.size(); i++) {
            String line = lines.get(i);
            if (line.startsWith("```")) {
                inJava = line.equals("```java");
                // A run can't lean on the object of an earlier one.
                array = null;
            } else if (inJava && !line.isEmpty()) {
                runShownLine("README.md line " + (i + 1) + ": " + line, line);
            }
        }
    }

    private static void runShownLine(String where, String line)
            throws ReflectiveOperationException {
        if (line.equals(NEW_OBJECT)) {
            array = new ReshapeArray();
            return;
        }
        Matcher call = CALL.matcher(line);
        // A line of another form would be shown without being tried.
        boolean known = call.matches() && array != null;
        Due.due(where + " (is a call with its answer)", known ? 1 : 0, 1);
        if (known) {
            int want = Integer.parseInt(call.group(3));
            Due.due(where, answer(call.group(1), call.group(2)), want);
            shownMethods.add(call.group(1));
            if (want < 0 && !NEVER_REFUSING.contains(call.group(1))) {
                shownRefusals.computeIfAbsent(call.group(1), name -> new TreeSet<>()).add(want);
            }
        }
    }

    private static int answer(String name, String arguments) throws ReflectiveOperationException {
        List<Object> values = new ArrayList<>();
        for (String argument : split(arguments)) {
            values.add(Integer.parseInt(argument));
        }
        Class<?>[] types = new Class<?>[values.size()];
        Arrays.fill(types, int.class);
        return (int) ReshapeArray.class.getMethod(name, types).invoke(array, values.toArray());
    }

    private static List<String> split(String arguments) {
        return arguments.isEmpty() ? List.of() : List.of(arguments.split(", "));
    }

    private static void checkMethodTable(List<String> lines) {
        Map<String, Integer> told = new TreeMap<>();
        for (String line : lines) {
            Matcher row = METHOD_ROW.matcher(line);
            if (row.matches()) {
                String name = row.group(1);
                Due.due("rows for " + name, told.containsKey(name) ? 2 : 1, 1);
                told.put(name, split(row.group(2)).size());
                Due.due("shown: " + name, shownMethods.contains(name) ? 1 : 0, 1);
                checkRefusals(name, line.substring(line.lastIndexOf('|', line.length() - 2)));
            }
        }
        Due.due("methods that are told of and are those of the class: " + told,
            told.equals(methodsOfTheClass()) ? 1 : 0, 1);
    }

    private static void checkRefusals(String name, String lastColumn) {
        Set<Integer> told = new TreeSet<>();
        Matcher refusal = REFUSAL.matcher(lastColumn);
        while (refusal.find()) {
            told.add(Integer.parseInt(refusal.group(1)));
        }
        Set<Integer> shown = shownRefusals.getOrDefault(name, Set.of());
        Due.due(name + " refuses with " + told + " in its row, shown are " + shown,
            told.equals(shown) ? 1 : 0, 1);
    }

    private static Map<String, Integer> methodsOfTheClass() {
        Map<String, Integer> methods = new TreeMap<>();
        for (Method m : ReshapeArray.class.getDeclaredMethods()) {
            if (Modifier.isPublic(m.getModifiers())) {
                methods.put(m.getName(), m.getParameterCount());
            }
        }
        return methods;
    }

    private static void checkTestTable(List<String> lines) throws IOException {
        Set<String> told = new TreeSet<>();
        for (String line : lines) {
            Matcher row = TEST_ROW.matcher(line);
            if (row.matches()) {
                told.add(row.group(1) + ".java");
            }
        }
        Set<String> there = new TreeSet<>();
        try (DirectoryStream<Path> files =
                Files.newDirectoryStream(Path.of("src/test/java"), "*Test.java")) {
            files.forEach(file -> there.add(file.getFileName().toString()));
        }
        Due.due("tests that are told of, " + told + ", are those there, " + there,
            told.equals(there) ? 1 : 0, 1);
    }
}
