import java.io.File;
import java.io.PrintWriter;
import java.io.StringWriter;
import java.util.ArrayList;
import java.util.List;
import java.util.regex.Matcher;
import java.util.regex.Pattern;
import java.util.spi.ToolProvider;

/** The compiled class and the classes inside it, as javap shows them. */
final class Bytecode {
    private static final Pattern HEADER = Pattern.compile("  (?:.* )?(?:([\\w$]+)\\((.*)\\)|static \\{\\});");
    private static final Pattern STEP = Pattern.compile("\\s+\\d+: (\\w+)(?:.*// (?:Interface)?Method (\\S+):.*)?.*");
    private static final Pattern LINE = Pattern.compile("\\s+line (\\d+): \\d+");

    /** A method: its steps by name, the methods that it calls as Class.name, and the lines of its code. */
    static final class Code {
        final String name;
        final List<String> steps = new ArrayList<>();
        final List<String> calls = new ArrayList<>();
        int firstLine = Integer.MAX_VALUE;
        int lastLine = 0;
        boolean catches = false;

        Code(String name) {
            this.name = name;
        }

        boolean isConstructor() {
            return name.endsWith(".<init>");
        }
    }

    private Bytecode() {
    }

    static List<Code> of(Class<?> type) {
        StringWriter shown = new StringWriter();
        StringWriter errors = new StringWriter();
        String folder = new File(type.getProtectionDomain().getCodeSource().getLocation().getPath()).getPath();
        int exit = ToolProvider.findFirst("javap").orElseThrow().run(new PrintWriter(shown, true),
                new PrintWriter(errors, true), "-p", "-c", "-l", "-cp", folder, type.getName());
        if (exit != 0) {
            throw new IllegalStateException("javap: " + errors);
        }
        return parsed(type.getName(), shown.toString().split("\\R"));
    }

    private static List<Code> parsed(String type, String[] lines) {
        List<Code> found = new ArrayList<>();
        Code code = null;
        for (String line : lines) {
            Matcher header = HEADER.matcher(line);
            if (header.matches()) {
                code = new Code(type + "." + methodName(type, header.group(1)));
                found.add(code);
            } else if (code != null) {
                read(code, type, line);
            }
        }
        return found;
    }

    private static String methodName(String type, String shown) {
        if (shown == null) {
            return "<clinit>";
        }
        return shown.equals(type) ? "<init>" : shown;
    }

    private static void read(Code code, String type, String line) {
        Matcher step = STEP.matcher(line);
        Matcher number = LINE.matcher(line);
        if (step.matches()) {
            code.steps.add(step.group(1));
            if (step.group(2) != null) {
                String called = step.group(2).replace("\"", "").replace('/', '.');
                code.calls.add(called.contains(".") ? called : type + "." + called);
            }
        } else if (number.matches()) {
            code.firstLine = Math.min(code.firstLine, Integer.parseInt(number.group(1)));
            code.lastLine = Math.max(code.lastLine, Integer.parseInt(number.group(1)));
        } else if (line.contains("Exception table")) {
            code.catches = true;
        }
    }
}
