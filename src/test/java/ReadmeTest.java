import java.nio.file.Files;
import java.nio.file.Path;
import java.util.ArrayList;
import java.util.List;
import java.util.Set;
import java.util.TreeMap;
import java.util.TreeSet;
import java.util.regex.Matcher;
import java.util.regex.Pattern;
import java.util.stream.Stream;
import javax.tools.ToolProvider;

/** What README.md says is so: its examples are run, its calls are the document's, its tests those that there are. */
public final class ReadmeTest {
    private static final Path README = Path.of("README.md");
    private static final Path DOCUMENT = Path.of("../shared/DOC.md");
    private static final Path TESTS = Path.of("src/test/java");
    private static final int LEAST_CHECKS = 5;

    private static int wrong = 0;
    private static int checks = 0;

    private static void rule(boolean kept, String what) {
        if (!kept) {
            wrong++;
            System.out.println(what);
        }
    }

    /** Called by the compiled examples. */
    static void due(String line, long got, long want) {
        checks++;
        rule(got == want, line + " is " + got);
    }

    /** Called by the compiled examples. */
    static void due(String line, double got, double want) {
        checks++;
        rule(Double.compare(got, want) == 0, line + " is " + got);
    }

    private static String quoted(String text) {
        return "\"" + text.replace("\\", "\\\\").replace("\"", "\\\"") + "\"";
    }

    /** A line that ends with '// -> value: words' becomes one that looks whether it is so. */
    private static String checked(String line) {
        Matcher claim = Pattern.compile("(?:(\\w+ (\\w+) = .*;)|(.*);)\\s+// -> ([^:]+)(?::.*)?").matcher(line);
        if (!claim.matches()) {
            rule(!line.contains("->"), "not understood: " + line);
            return line + "\n";
        }
        String before = claim.group(1) == null ? "" : claim.group(1) + " ";
        String got = claim.group(1) == null ? claim.group(3) : claim.group(2);
        return before + "ReadmeTest.due(" + quoted(line) + ", " + got + ", " + claim.group(4) + ");\n";
    }

    private static void runExample(int number, String example) throws Exception {
        Path home = Path.of(ReadmeTest.class.getProtectionDomain().getCodeSource().getLocation().toURI());
        String name = "ReadmeExample" + number;
        StringBuilder code = new StringBuilder("final class " + name + " {\nstatic void run() {\n");
        example.lines().forEach(line -> code.append(checked(line)));
        Path file = home.resolve(name + ".java");
        Files.writeString(file, code + "}\n}\n");
        int exit = ToolProvider.getSystemJavaCompiler().run(null, System.out, System.out,
            "-cp", home.toString(), "-d", home.toString(), file.toString());
        rule(exit == 0, "example " + number + " does not compile");
        if (exit == 0) {
            Class.forName(name).getDeclaredMethod("run").invoke(null);
        }
    }

    private static void examples(String readme) throws Exception {
        Matcher example = Pattern.compile("(?ms)^```java\n(.*?)^```$").matcher(readme);
        int number = 0;
        while (example.find()) {
            number++;
            int before = checks;
            runExample(number, example.group(1));
            rule(checks - before >= LEAST_CHECKS, "example " + number + " says too little");
        }
        rule(number > 0, "there is no example");
    }

    private static String numbersOf(String text) {
        List<String> numbers = new ArrayList<>();
        Matcher number = Pattern.compile("\\d+").matcher(text);
        while (number.find()) {
            numbers.add(number.group());
        }
        return numbers.toString();
    }

    private static void put(TreeMap<String, String> calls, String call, String failures) {
        rule(calls.put(call, failures) == null, call + " is there twice");
    }

    private static TreeMap<String, String> callsOfReadme(String readme) {
        TreeMap<String, String> calls = new TreeMap<>();
        Matcher row = Pattern.compile("(?m)^\\| `(\\w+\\([^)]*\\))` \\| .* \\| ?(.*)\\|$").matcher(readme);
        while (row.find()) {
            put(calls, row.group(1), numbersOf(row.group(2)));
        }
        return calls;
    }

    private static TreeMap<String, String> callsOfDocument(String document) {
        TreeMap<String, String> calls = new TreeMap<>();
        Matcher promise = Pattern.compile("(?m)^`(?:int|long) (\\w+)\\(([^)]*)\\)`: (.*)$").matcher(document);
        while (promise.find()) {
            String names = promise.group(2).replaceAll("\\b(boolean|int|long) ", "");
            // What stands in brackets tells bounds, not failures.
            String words = promise.group(3).replaceAll("\\([^)]*\\)", "");
            Matcher failures = Pattern.compile("FAILURES? (\\d[\\d,; ]*)").matcher(words);
            put(calls, promise.group(1) + "(" + names + ")", numbersOf(failures.find() ? failures.group(1) : ""));
        }
        return calls;
    }

    private static void calls(String readme, String document) {
        TreeMap<String, String> due = callsOfDocument(document);
        TreeMap<String, String> told = callsOfReadme(readme);
        rule(due.size() == 19, "the document has " + due.size() + " calls");
        rule(told.equals(due), "the calls are told as " + told + ", due is " + due);
    }

    private static void tests(String readme) throws Exception {
        Set<String> told = new TreeSet<>();
        Matcher item = Pattern.compile("(?m)^- `(\\w+)`:").matcher(readme);
        while (item.find()) {
            told.add(item.group(1) + ".java");
        }
        Set<String> due = new TreeSet<>();
        try (Stream<Path> files = Files.list(TESTS)) {
            files.forEach(file -> due.add(file.getFileName().toString()));
        }
        rule(told.equals(due), "the tests are told as " + told + ", due is " + due);
    }

    public static void main(String[] args) throws Exception {
        String readme = Files.readString(README);
        examples(readme);
        calls(readme, Files.readString(DOCUMENT));
        tests(readme);
        System.out.println(checks + " lines of examples, " + wrong + " things not as README.md says");
        if (wrong != 0) {
            System.exit(1);
        }
    }
}
