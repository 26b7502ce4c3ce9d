import java.io.IOException;
import java.nio.file.Files;
import java.nio.file.Path;
import java.util.ArrayList;
import java.util.List;
import java.util.regex.Matcher;
import java.util.regex.Pattern;

/** What a test reads from ../shared/DOC.md itself, so that it cannot differ from the document. */
final class Document {
    private static final Path PATH = Path.of("../shared/DOC.md");
    private static final Pattern PROMISE = Pattern.compile("## Promise (\\d+): [^\n]*\n\n`([^`]*)`\n");
    private static final Pattern METHOD = Pattern.compile("public int (\\w+)\\(([^)]*)\\);");
    private static final Pattern CONSTANT = Pattern.compile("([A-Z_]+) = (-?\\d+)");
    private static final Pattern CALL = Pattern.compile("(\\w+)\\(([-0-9, ]*)\\) = (-?\\d+)");

    /** One call of an example, with its result. */
    record Call(String name, long[] arguments, int result) {
    }

    private final String text;

    private Document(String text) {
        this.text = text;
    }

    static Document read() throws IOException {
        return new Document(Files.readString(PATH));
    }

    /** What stands behind one mark and before the next. */
    private String between(String from, String to) {
        int start = text.indexOf(from);
        int end = text.indexOf(to, start + from.length());
        if (start < 0 || end < 0) {
            throw new IllegalStateException("the document has no part from " + from + " to " + to);
        }
        return text.substring(start + from.length(), end);
    }

    private String face() {
        return between("## The public face\n\n```java\n", "```");
    }

    String classLine() {
        String face = face();
        return face.substring(0, face.indexOf('{')).trim();
    }

    /** The signatures, as name(int a, long b), in the order of the face. */
    List<String> methods() {
        List<String> found = new ArrayList<>();
        Matcher matcher = METHOD.matcher(face());
        while (matcher.find()) {
            found.add(matcher.group(1) + "(" + matcher.group(2) + ")");
        }
        return found;
    }

    /** The constants of the face, as NAME=value. */
    List<String> constants() {
        return constantsIn(face());
    }

    /** The constants as the list behind the examples has them. */
    List<String> listedConstants() {
        return constantsIn(between("The constants:\n", "The constructor and the methods follow"));
    }

    private static List<String> constantsIn(String part) {
        List<String> found = new ArrayList<>();
        Matcher matcher = CONSTANT.matcher(part);
        while (matcher.find()) {
            found.add(matcher.group(1) + "=" + matcher.group(2));
        }
        return found;
    }

    /** The signatures of the promises; the first promise has the index 0. */
    List<String> promises() {
        List<String> found = new ArrayList<>();
        Matcher matcher = PROMISE.matcher(text);
        while (matcher.find()) {
            found.add(matcher.group(2).replaceFirst("^int ", ""));
            if (Integer.parseInt(matcher.group(1)) != found.size()) {
                throw new IllegalStateException("promise " + matcher.group(1) + " is not the next one");
            }
        }
        return found;
    }

    private String examplesPart() {
        return between("Examples:", "The constants:");
    }

    /** How many results stand behind calls there: none may be left out by examples(). */
    int resultsInExamples() {
        return examplesPart().split("\\)\\s+=\\s", -1).length - 1;
    }

    /** The calls of each example, in their order. */
    List<List<Call>> examples() {
        List<List<Call>> found = new ArrayList<>();
        for (String example : examplesPart().split("\n(?=\\d+\\. )")) {
            List<Call> calls = new ArrayList<>();
            Matcher matcher = CALL.matcher(example.replaceAll("\\s+", " "));
            while (matcher.find()) {
                calls.add(new Call(matcher.group(1), numbers(matcher.group(2)), Integer.parseInt(matcher.group(3))));
            }
            if (!calls.isEmpty()) {
                found.add(calls);
            }
        }
        return found;
    }

    private static long[] numbers(String list) {
        if (list.isBlank()) {
            return new long[0];
        }
        String[] parts = list.split(",");
        long[] numbers = new long[parts.length];
        for (int i = 0; i < parts.length; i++) {
            numbers[i] = Long.parseLong(parts[i].trim());
        }
        return numbers;
    }
}
