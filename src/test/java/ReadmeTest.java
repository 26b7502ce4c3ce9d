import java.io.File;
import java.io.IOException;
import java.lang.reflect.Method;
import java.net.URL;
import java.net.URLClassLoader;
import java.nio.file.Files;
import java.nio.file.Path;
import java.util.ArrayList;
import java.util.List;
import java.util.Set;
import java.util.TreeSet;
import java.util.regex.Matcher;
import java.util.regex.Pattern;
import java.util.spi.ToolProvider;
import java.util.stream.Stream;

/** README.md: what it says of the use of the class and of the tests is tried as it stands there. */
public final class ReadmeTest {
    private static final Path PAGE = Path.of("README.md");
    private static final Path TESTS = Path.of("src/test/java");
    private static final Pattern BLOCK = Pattern.compile("```(\\w+)\n(.*?)```", Pattern.DOTALL);
    /** A call of the example, with what stands behind it: a number or the name of a constant. */
    private static final Pattern CALL = Pattern.compile("x\\.(\\w+)\\((.*)\\);\\s+// (-?\\d+|[A-Z_]+)(: .*)?");
    private static final Pattern PROMISE_ROW = Pattern.compile("\\| (\\d+) \\| `([^`]*)` \\|.*");
    private static final Pattern TEST_ROW = Pattern.compile("\\| `(\\w+Test)` \\|(.*)");

    public static void main(String[] args) throws IOException, InterruptedException, ReflectiveOperationException {
        String page = Files.readString(PAGE);
        example(onlyBlock(page, "java"));
        commands(onlyBlock(page, "sh"));
        tableOfPromises(page);
        tablesOfTests(page);
        Checks.finish();
    }

    private static String onlyBlock(String page, String language) {
        List<String> found = new ArrayList<>();
        Matcher matcher = BLOCK.matcher(page);
        while (matcher.find()) {
            if (matcher.group(1).equals(language)) {
                found.add(matcher.group(2));
            }
        }
        Checks.due("blocks of " + language, found.size(), 1);
        return found.isEmpty() ? "" : found.get(0);
    }

    // ---- the example

    /** The block as it stands in a method that answers nothing, and once more with its answers collected. */
    private static void example(String block) throws IOException, ReflectiveOperationException {
        StringBuilder collecting = new StringBuilder();
        List<String> calls = new ArrayList<>();
        List<Integer> wants = new ArrayList<>();
        for (String line : block.split("\n")) {
            Matcher call = CALL.matcher(line);
            if (call.matches()) {
                calls.add(call.group(1) + "(" + call.group(2) + ")");
                wants.add(value(call.group(3)));
                collecting.append("answers.add(x.").append(calls.get(calls.size() - 1)).append(");\n");
            } else {
                Checks.isTrue("the line tells an answer or has none: " + line, !line.contains("//"));
                collecting.append(line).append('\n');
            }
        }
        Checks.isTrue("the example has answers", !calls.isEmpty());
        List<?> answers = run("public static void shown() {\n" + block + "}\n"
                + "public static java.util.List<Integer> answers() {\n"
                + "java.util.List<Integer> answers = new java.util.ArrayList<>();\n" + collecting
                + "return answers;\n}\n");
        for (int i = 0; i < answers.size(); i++) {
            Checks.due("README: " + calls.get(i), (Integer) answers.get(i), wants.get(i));
        }
        Checks.due("answers of the example", answers.size(), calls.size());
    }

    private static int value(String word) throws ReflectiveOperationException {
        return Character.isUpperCase(word.charAt(0)) ? WordEquations.class.getField(word).getInt(null)
                : Integer.parseInt(word);
    }

    private static List<?> run(String methods) throws IOException, ReflectiveOperationException {
        Path folder = Files.createTempDirectory("readme");
        Path source = folder.resolve("ReadmeExample.java");
        Files.writeString(source, "public final class ReadmeExample {\n" + methods + "}\n");
        int exit = ToolProvider.findFirst("javac").orElseThrow().run(System.out, System.out, "-d", folder.toString(),
                "-cp", System.getProperty("java.class.path"), source.toString());
        Checks.due("compiling the example", exit, 0);
        List<?> answers = List.of();
        if (exit == 0) {
            try (URLClassLoader loader = new URLClassLoader(new URL[] {folder.toUri().toURL()})) {
                Class<?> example = loader.loadClass("ReadmeExample");
                example.getMethod("shown").invoke(null);
                Method collected = example.getMethod("answers");
                answers = (List<?>) collected.invoke(null);
            }
        }
        remove(folder.toFile());
        return answers;
    }

    private static void remove(File file) {
        File[] inside = file.listFiles();
        for (int i = 0; inside != null && i < inside.length; i++) {
            remove(inside[i]);
        }
        file.delete();
    }

    // ---- the commands

    private static void commands(String block) throws IOException, InterruptedException {
        Path folder = Files.createTempDirectory("readme");
        ProcessBuilder builder = new ProcessBuilder("sh", "-e", "-c", block).redirectErrorStream(true);
        // What the commands make for a while is made where it can be taken away again.
        builder.environment().put("TMPDIR", folder.toString());
        Process shell = builder.start();
        String said = new String(shell.getInputStream().readAllBytes());
        Checks.due("the commands, which said: " + said, shell.waitFor(), 0);
        Checks.isTrue("they end with a test's words: " + said, said.contains("all answers are as due"));
        remove(folder.toFile());
        Checks.isTrue(".ci/run can be called", Files.isExecutable(Path.of(".ci/run")));
    }

    // ---- the tables

    private static void tableOfPromises(String page) throws IOException {
        List<String> promises = Document.read().promises();
        int row = 0;
        for (String line : page.split("\n")) {
            Matcher matcher = PROMISE_ROW.matcher(line);
            if (matcher.matches() && row < promises.size()) {
                String call = matcher.group(2);
                Checks.due("the number of " + call, Integer.parseInt(matcher.group(1)), row + 1);
                Checks.isTrue(call + " is promise " + (row + 1), call.equals(promises.get(row)));
                row++;
            }
        }
        Checks.due("rows of promises", row, promises.size());
    }

    /** Every test stands in a row, every row has its test, and every promise is in two of the rows. */
    private static void tablesOfTests(String page) throws IOException {
        Set<String> named = new TreeSet<>();
        int[] tests = new int[Document.read().promises().size() + 1];
        for (String line : page.split("\n")) {
            Matcher matcher = TEST_ROW.matcher(line);
            if (matcher.matches()) {
                Checks.isTrue(matcher.group(1) + " stands in one row", named.add(matcher.group(1)));
                countPromises(matcher.group(2), tests);
            }
        }
        Set<String> there = new TreeSet<>();
        try (Stream<Path> files = Files.list(TESTS)) {
            files.map(file -> file.getFileName().toString()).filter(name -> name.endsWith("Test.java"))
                    .forEach(name -> there.add(name.replace(".java", "")));
        }
        Checks.isTrue("the tests are " + there + ", not " + named, named.equals(there));
        for (int promise = 1; promise < tests.length; promise++) {
            Checks.due("tests named for promise " + promise, tests[promise], 2);
        }
    }

    /** A cell such as "1, 6 to 8" names promises. */
    private static void countPromises(String row, int[] tests) {
        for (String cell : row.split("\\|")) {
            if (cell.matches(" \\d+( to \\d+|, \\d+)* ")) {
                for (String part : cell.trim().split(", ")) {
                    String[] ends = part.split(" to ");
                    for (int i = Integer.parseInt(ends[0]); i <= Integer.parseInt(ends[ends.length - 1]); i++) {
                        tests[i]++;
                    }
                }
            }
        }
    }
}
