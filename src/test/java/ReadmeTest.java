import java.io.IOException;
import java.lang.reflect.Method;
import java.nio.file.Files;
import java.nio.file.Path;
import java.util.ArrayList;
import java.util.HashMap;
import java.util.List;
import java.util.Map;
import java.util.TreeSet;
import java.util.regex.MatchResult;
import java.util.regex.Matcher;
import java.util.regex.Pattern;
import java.util.stream.Stream;

/** README.md: its example answers what stands behind each call, its table is the document's, its files are there. */
public final class ReadmeTest {
    private static final Pattern FIRST = Pattern.compile("WaySigns signs = new WaySigns\\(\\);");
    private static final Pattern CALL =
        Pattern.compile("(?:int (\\w+) = )?signs\\.(\\w+)\\((.*)\\); +// (-?\\w+)(?:: .+)?");
    private static final Pattern ROW = Pattern.compile("(?m)^\\| `(\\w+\\(.*?\\))` \\| (.*) \\|(.*)\\|$");
    private static final Pattern PROMISE = Pattern.compile("(?m)^`int (\\w+\\(.*?\\))`: (.*)$");
    private static final Pattern REFUSAL = Pattern.compile("\\b(UNKNOWN|OUTSIDE|STATE|FULL)\\b");
    private static final Pattern CONSTANT = Pattern.compile("`([A-Z]+)` \\((-\\d+)");
    private static final Pattern FILE = Pattern.compile("`([\\w./]*/[\\w./]+)`");
    private static final Pattern TEST = Pattern.compile("(?m)^- `(\\w+)`: ");
    private static final int LEAST_CALLS = 25;

    private static int wrong = 0;

    public static void main(String[] args) throws IOException, ReflectiveOperationException {
        String readme = Files.readString(Path.of("README.md"));
        example(readme);
        table(readme, Files.readString(Path.of("../shared/DOC.md")));
        constants(readme);
        files(readme);
        tests(readme);
        System.out.println(wrong == 0 ? "all of the README is so" : wrong + " things in the README are not so");
        if (wrong != 0) {
            System.exit(1);
        }
    }

    private static void must(boolean holds, String what) {
        if (!holds) {
            wrong++;
            System.out.println("README.md: " + what);
        }
    }

    private static List<MatchResult> all(Pattern pattern, String text) {
        return pattern.matcher(text).results().toList();
    }

    // ---- the example

    private static void example(String readme) throws ReflectiveOperationException {
        int calls = 0;
        for (MatchResult block : all(Pattern.compile("(?s)```java\n(.*?)```"), readme)) {
            calls += run(block.group(1));
        }
        must(calls >= LEAST_CALLS, "its example has " + calls + " calls");
    }

    private static int run(String block) throws ReflectiveOperationException {
        WaySigns signs = new WaySigns();
        Map<String, Object> variables = new HashMap<>();
        int calls = 0;
        for (String line : block.split("\n")) {
            Matcher call = CALL.matcher(line);
            if (call.matches()) {
                int got = answer(signs, call.group(2), call.group(3), variables);
                int due = (Integer) value(call.group(4), variables);
                must(got == due, line + " answers " + got);
                variables.put(call.group(1) == null ? "" : call.group(1), got);
                calls++;
            } else {
                must(line.isEmpty() || FIRST.matcher(line).matches(), "no answer is told in: " + line);
            }
        }
        return calls;
    }

    private static int answer(WaySigns signs, String name, String told, Map<String, Object> variables)
            throws ReflectiveOperationException {
        List<Object> arguments = new ArrayList<>();
        for (String word : told.isEmpty() ? new String[0] : told.split(", ")) {
            arguments.add(value(word, variables));
        }
        for (Method method : WaySigns.class.getMethods()) {
            if (method.getName().equals(name) && method.getDeclaringClass() == WaySigns.class) {
                return (Integer) method.invoke(signs, arguments.toArray());
            }
        }
        throw new NoSuchMethodException(name);
    }

    private static Object value(String word, Map<String, Object> variables) throws ReflectiveOperationException {
        if (word.equals("true") || word.equals("false")) {
            return word.equals("true");
        }
        if (word.matches("-?\\d+")) {
            return Integer.valueOf(word);
        }
        return word.matches("[A-Z]+") ? WaySigns.class.getField(word).get(null) : variables.get(word);
    }

    // ---- the table of the calls

    private static void table(String readme, String document) {
        List<String> told = new ArrayList<>();
        for (MatchResult row : all(ROW, readme)) {
            told.add(row.group(1) + " refuses " + row.group(3).trim());
        }
        List<String> due = new ArrayList<>();
        for (MatchResult promise : all(PROMISE, document)) {
            List<String> refusals = all(REFUSAL, promise.group(2)).stream().map(MatchResult::group).toList();
            due.add(promise.group(1) + " refuses " + String.join(", ", refusals));
        }
        must(due.size() == 22, "the document has " + due.size() + " calls");
        must(told.size() == due.size(), "its table has " + told.size() + " calls");
        for (int i = 0; i < Math.min(told.size(), due.size()); i++) {
            must(told.get(i).equals(due.get(i)), told.get(i) + "; the document: " + due.get(i));
        }
    }

    private static void constants(String readme) throws ReflectiveOperationException {
        List<MatchResult> told = all(CONSTANT, readme);
        must(told.size() == 5, "it tells " + told.size() + " constants");
        for (MatchResult constant : told) {
            int value = WaySigns.class.getField(constant.group(1)).getInt(null);
            must(value == Integer.parseInt(constant.group(2)), constant.group(1) + " is " + value);
        }
    }

    // ---- files and tests

    private static void files(String readme) {
        List<MatchResult> told = all(FILE, readme);
        must(told.size() >= 5, "it names " + told.size() + " files");
        for (MatchResult file : told) {
            must(Files.exists(Path.of(file.group(1))), "there is no " + file.group(1));
        }
        must(Files.isExecutable(Path.of(".ci/run")), ".ci/run is not executable");
    }

    private static void tests(String readme) throws IOException {
        TreeSet<String> told = new TreeSet<>();
        for (MatchResult test : all(TEST, readme)) {
            told.add(test.group(1) + ".java");
        }
        TreeSet<String> due = new TreeSet<>();
        try (Stream<Path> found = Files.list(Path.of("src/test/java"))) {
            found.forEach(path -> due.add(path.getFileName().toString()));
        }
        must(told.equals(due), "its tests are " + told + ", there are " + due);
    }
}
