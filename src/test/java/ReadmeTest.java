import java.io.IOException;
import java.lang.reflect.Method;
import java.lang.reflect.Modifier;
import java.net.URL;
import java.net.URLClassLoader;
import java.nio.file.Files;
import java.nio.file.Path;
import java.util.ArrayList;
import java.util.List;
import java.util.Map;
import java.util.Set;
import java.util.TreeMap;
import java.util.TreeSet;
import java.util.regex.Matcher;
import java.util.regex.Pattern;
import java.util.stream.Stream;
import javax.tools.ToolProvider;

/**
 * What README.md says is so: its examples are taken from the page, compiled and run, and each answer that a line names
 * is held against the call's; its tables name every call, every STATUS and FAULT, and its list every test.
 */
public final class ReadmeTest {
    private static final Check CHECK = new Check("ReadmeTest");
    private static final Path PAGE = Path.of("README.md");
    private static final Pattern ANSWERED = Pattern.compile("(\\S.*);\\s+// (-?[0-9.]+|true|false|NONE)(?:: .*)?");
    private static final Pattern CALL = Pattern.compile("\\| `(\\w+)\\((.*)\\)` \\| \\S.*\\|");
    private static final Pattern NUMBER = Pattern.compile("\\| (\\d) \\| \\S.*\\|");
    private static final Set<Integer> NAMED = new TreeSet<>();

    public static void main(String[] args) throws Exception {
        List<String> page = Files.readAllLines(PAGE);
        runExamples(blocks(page));
        for (int status = 0; status <= 9; status++) {
            CHECK.due("an example shows the status " + status, NAMED.contains(status), true);
        }
        dueCalls(page);
        dueNumbers(page, "| status |", 9);
        dueNumbers(page, "| fault |", 7);
        dueTests(page);
        dueCommand(page);
        CHECK.end();
    }

    // ---- for the examples, which call these

    public static void due(String line, long got, long want) {
        CHECK.due("README.md: " + line, got, want);
        if (line.equals("x.status()")) {
            NAMED.add((int) got);
        }
    }

    public static void due(String line, boolean got, boolean want) {
        CHECK.due("README.md: " + line, got, want);
    }

    public static void due(String line, float got, double want) {
        CHECK.due("README.md: " + line + " (bits)", Float.floatToIntBits(got), Float.floatToIntBits((float) want));
    }

    // ---- the examples

    private static List<List<String>> blocks(List<String> page) {
        List<List<String>> blocks = new ArrayList<>();
        List<String> block = null;
        for (String line : page) {
            if (block == null && line.equals("```java")) {
                block = new ArrayList<>();
            } else if (block != null && line.equals("```")) {
                blocks.add(block);
                block = null;
            } else if (block != null) {
                block.add(line);
            }
        }
        return blocks;
    }

    private static void runExamples(List<List<String>> blocks) throws Exception {
        StringBuilder source = new StringBuilder("public final class Shown {\n");
        int examples = 0;
        for (List<String> block : blocks) {
            if (block.get(0).startsWith("static ")) {
                source.append(String.join("\n", block)).append('\n');
            } else {
                source.append("public static void example").append(examples++).append("() {\n");
                block.forEach(line -> source.append(asked(line)).append('\n'));
                source.append("}\n");
            }
        }
        CHECK.due("examples in README.md", examples, 3);
        Path folder = Files.createTempDirectory("readme");
        try {
            Files.writeString(folder.resolve("Shown.java"), source.append("}\n"));
            String classes = System.getProperty("java.class.path");
            int left = ToolProvider.getSystemJavaCompiler().run(null, null, null, "-proc:none", "-cp", classes,
                    "-d", folder.toString(), folder.resolve("Shown.java").toString());
            CHECK.due("the examples compile", left, 0);
            try (URLClassLoader loader = new URLClassLoader(new URL[] {folder.toUri().toURL()})) {
                for (int i = 0; left == 0 && i < examples; i++) {
                    loader.loadClass("Shown").getMethod("example" + i).invoke(null);
                }
            }
        } finally {
            remove(folder);
        }
    }

    /** A line of an example as a question; each but the one that makes the object must name its answer. */
    private static String asked(String line) {
        if (line.equals("ChordWords x = new ChordWords();")) {
            return line;
        }
        Matcher found = ANSWERED.matcher(line);
        CHECK.due("it names its answer: " + line, found.matches(), true);
        if (!found.matches()) {
            return "";
        }
        String want = found.group(2).equals("NONE") ? "ChordWords.NONE" : found.group(2);
        String told = found.group(1).replace("\\", "\\\\").replace("\"", "\\\"");
        return "ReadmeTest.due(\"" + told + "\", " + found.group(1) + ", " + want + ");";
    }

    private static void remove(Path folder) throws IOException {
        try (Stream<Path> files = Files.list(folder)) {
            for (Path file : files.toList()) {
                Files.delete(file);
            }
        }
        Files.delete(folder);
    }

    // ---- the tables and the list

    private static void dueCalls(List<String> page) {
        Map<String, Integer> told = new TreeMap<>();
        for (String line : page) {
            Matcher found = CALL.matcher(line);
            if (found.matches()) {
                String numbers = found.group(2);
                CHECK.due("told once: " + found.group(1), told.containsKey(found.group(1)), false);
                told.put(found.group(1), numbers.isEmpty() ? 0 : numbers.split(", ").length);
            }
        }
        Map<String, Integer> due = new TreeMap<>();
        for (Method method : ChordWords.class.getDeclaredMethods()) {
            if (Modifier.isPublic(method.getModifiers())) {
                due.put(method.getName(), method.getParameterCount());
            }
        }
        due.forEach((name, numbers) -> CHECK.due("README.md tells " + name, told.getOrDefault(name, -1), numbers));
        CHECK.due("calls that README.md tells", told.size(), due.size());
    }

    private static void dueNumbers(List<String> page, String head, int last) {
        int at = 0;
        while (at < page.size() && !page.get(at).startsWith(head)) {
            at++;
        }
        for (int number = 0; number <= last; number++) {
            int row = at + 2 + number;
            Matcher found = NUMBER.matcher(row < page.size() ? page.get(row) : "");
            CHECK.due("README.md tells " + head + ' ' + number, found.matches() ? found.group(1).charAt(0) - '0' : -1,
                    number);
        }
    }

    private static void dueTests(List<String> page) throws IOException {
        String text = String.join("\n", page);
        Matcher named = Pattern.compile("`(?:src/test/java/)?(\\w+\\.java)`").matcher(text);
        Set<String> told = new TreeSet<>();
        while (named.find()) {
            told.add(named.group(1));
        }
        told.remove("ChordWords.java");
        Set<String> there = new TreeSet<>();
        try (Stream<Path> files = Files.list(Path.of("src/test/java"))) {
            files.forEach(file -> there.add(file.getFileName().toString()));
        }
        CHECK.due("README.md names the tests that there are: " + told + ", " + there, told.equals(there), true);
    }

    private static void dueCommand(List<String> page) {
        CHECK.due("README.md names the command", page.contains("    bash .ci/run"), true);
        CHECK.due("there is such a script", Files.isExecutable(Path.of(".ci/run")), true);
    }
}
