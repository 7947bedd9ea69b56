import java.io.IOException;
import java.lang.reflect.Method;
import java.nio.file.DirectoryStream;
import java.nio.file.Files;
import java.nio.file.Path;
import java.util.ArrayList;
import java.util.List;
import java.util.Map;
import java.util.Set;
import java.util.TreeMap;
import java.util.TreeSet;
import java.util.regex.Matcher;
import java.util.regex.Pattern;

/** What README.md says: its example holds for the class, and its tables agree with the document. */
public final class ReadmeTest {
    private static final Path TESTS = Path.of("src/test/java");

    // The document's calls, each with what it may answer instead, in the order of the promise.
    private static final String[][] CALLS = {
        {"mapNew(start, len, prot, backing)", "BAD, TAKEN, FULL"},
        {"mapOver(start, len, prot, backing)", "BAD, FULL"},
        {"mapLow(from, len, prot, backing)", "BAD, NO_ROOM, FULL"},
        {"mapHigh(to, len, prot, backing)", "BAD, NO_ROOM, FULL"},
        {"unmap(start, len)", "BAD, FULL"},
        {"protect(start, len, prot)", "BAD, HOLE, FULL"},
        {"move(start, len, to)", "BAD, HOLE, FULL"},
        {"moveFree(start, len, from)", "BAD, HOLE, NO_ROOM, FULL"},
        {"protOf(page)", "BAD, FREE"},
        {"backingOf(page)", "BAD, FREE"},
        {"regionCount()", ""},
        {"regionStart(k)", "BAD"},
        {"regionLength(k)", "BAD"},
        {"findLow(from, len)", "BAD, NO_ROOM"},
        {"findHigh(to, len)", "BAD, NO_ROOM"},
        {"longestGap()", ""},
    };
    private static final String CONSTANTS = "BAD = -1, HOLE = -2, TAKEN = -3, NO_ROOM = -4, FULL = -5, FREE = -6";

    private static final Pattern EXAMPLE = Pattern.compile("```java\n(.*?)```", Pattern.DOTALL);
    private static final Pattern EXAMPLE_START = Pattern.compile("RegionMap map = new RegionMap\\((.*)\\);");
    private static final Pattern EXAMPLE_CALL =
        Pattern.compile("map\\.(\\w+)\\((.*)\\);\\s+// (-?\\d+|[A-Z_]+)(:.*)?");
    private static final Pattern CONSTANT = Pattern.compile("`([A-Z_]+)`");
    private static final Pattern VALUED_CONSTANT = Pattern.compile("`([A-Z_]+)` = (-?\\d+)");
    private static final Pattern TABLE_CALL = Pattern.compile("(?m)^\\| `(\\w+\\(.*?\\))` \\|.*\\|(.*)\\|$");
    private static final Pattern NAMED_TEST = Pattern.compile("`(\\w+Test)`");

    private final Check check = new Check("README.md");
    private final String readme = Files.readString(Path.of("README.md"));

    private ReadmeTest() throws IOException {
    }

    public static void main(String[] args) throws IOException, ReflectiveOperationException {
        ReadmeTest test = new ReadmeTest();
        test.example();
        test.constants();
        test.calls();
        test.tests();
        test.check.end();
    }

    private void example() throws ReflectiveOperationException {
        Matcher block = EXAMPLE.matcher(readme);
        if (!block.find()) {
            check.wrong("there is no example");
            return;
        }
        String[] lines = block.group(1).split("\n");
        Matcher start = EXAMPLE_START.matcher(lines[0]);
        if (!start.matches()) {
            check.wrong("the example does not begin with a new map");
            return;
        }
        int[] sizes = numbers(start.group(1));
        RegionMap map = new RegionMap(sizes[0], sizes[1]);
        for (int i = 1; i < lines.length; i++) {
            exampleCall(map, lines[i]);
        }
    }

    private void exampleCall(RegionMap map, String line) throws ReflectiveOperationException {
        Matcher call = EXAMPLE_CALL.matcher(line);
        if (!call.matches()) {
            check.wrong("the example has a line without an answer: " + line);
            return;
        }
        check.due(line, answer(map, call.group(1), numbers(call.group(2))), value(call.group(3)));
    }

    private static int answer(RegionMap map, String name, int[] arguments) throws ReflectiveOperationException {
        Class<?>[] types = new Class<?>[arguments.length];
        Object[] boxed = new Object[arguments.length];
        for (int i = 0; i < arguments.length; i++) {
            types[i] = int.class;
            boxed[i] = arguments[i];
        }
        Method method = RegionMap.class.getMethod(name, types);
        return (Integer) method.invoke(map, boxed);
    }

    private static int[] numbers(String list) {
        if (list.isEmpty()) {
            return new int[0];
        }
        String[] parts = list.split(", ");
        int[] numbers = new int[parts.length];
        for (int i = 0; i < parts.length; i++) {
            numbers[i] = Integer.parseInt(parts[i]);
        }
        return numbers;
    }

    private static int value(String word) throws ReflectiveOperationException {
        boolean named = Character.isUpperCase(word.charAt(0));
        return named ? RegionMap.class.getField(word).getInt(null) : Integer.parseInt(word);
    }

    private void constants() {
        List<String> got = new ArrayList<>();
        Matcher constant = VALUED_CONSTANT.matcher(readme);
        while (constant.find()) {
            got.add(constant.group(1) + " = " + constant.group(2));
        }
        check.due("the constants", String.join(", ", got), CONSTANTS);
    }

    private void calls() {
        Map<String, String> got = callsOfTables();
        for (String[] call : CALLS) {
            check.due("what " + call[0] + " may answer instead", got.getOrDefault(call[0], "not said"), call[1]);
        }
        check.due("the number of calls", got.size(), CALLS.length);
    }

    private Map<String, String> callsOfTables() {
        Map<String, String> calls = new TreeMap<>();
        Matcher row = TABLE_CALL.matcher(readme);
        while (row.find()) {
            calls.put(row.group(1), constantsIn(row.group(2)));
        }
        return calls;
    }

    private static String constantsIn(String cell) {
        List<String> names = new ArrayList<>();
        Matcher constant = CONSTANT.matcher(cell);
        while (constant.find()) {
            names.add(constant.group(1));
        }
        return String.join(", ", names);
    }

    private void tests() throws IOException {
        Set<String> got = new TreeSet<>();
        Matcher named = NAMED_TEST.matcher(readme);
        while (named.find()) {
            got.add(named.group(1));
        }
        Set<String> want = new TreeSet<>();
        try (DirectoryStream<Path> files = Files.newDirectoryStream(TESTS, "*Test.java")) {
            for (Path file : files) {
                want.add(file.getFileName().toString().replace(".java", ""));
            }
        }
        check.due("the list of tests", got.toString(), want.toString());
    }
}
