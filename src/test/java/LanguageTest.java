import java.io.IOException;
import java.lang.reflect.Field;
import java.lang.reflect.Method;
import java.lang.reflect.Modifier;
import java.nio.file.Files;
import java.nio.file.Path;
import java.util.ArrayDeque;
import java.util.ArrayList;
import java.util.Deque;
import java.util.HashMap;
import java.util.List;
import java.util.Map;
import java.util.Set;
import java.util.regex.Matcher;
import java.util.regex.Pattern;

/** The rules of LANGUAGE.md that can be read from the source and from the compiled class; rule 1 is in FaceTest. */
public final class LanguageTest {
    private static final Path SOURCE = Path.of("src/main/java/WordEquations.java");
    private static final int CLASSES = 12;
    private static final int FIELDS = 20;
    private static final int PARAMETERS = 7;
    private static final int LINES = 60;
    private static final int DEPTH = 8;
    private static final Set<Class<?>> CONSTANTS = Set.of(int.class, long.class, boolean.class, char.class,
            String.class, int[].class, long[].class, char[].class, byte[].class);
    private static final Set<String> LIBRARY = Set.of("java.lang.Object.<init>", "java.lang.String.length",
            "java.lang.String.charAt", "java.lang.String.isEmpty", "java.lang.String.equals",
            "java.lang.String.indexOf", "java.lang.String.substring", "java.lang.Math.max", "java.lang.Math.min",
            "java.lang.Math.abs", "java.lang.System.arraycopy", "java.util.Arrays.fill");

    private static final List<Class<?>> TYPES = new ArrayList<>();
    private static final Map<String, Bytecode.Code> METHODS = new HashMap<>();

    public static void main(String[] args) throws IOException {
        TYPES.add(WordEquations.class);
        TYPES.addAll(List.of(WordEquations.class.getDeclaredClasses()));
        for (Class<?> type : TYPES) {
            for (Bytecode.Code code : Bytecode.of(type)) {
                // A call is told by its name alone: two methods of one name would hide each other.
                Checks.isTrue(code.name + " stands once in its class", METHODS.put(code.name, code) == null);
            }
        }
        everyMethodIsRead();
        staticFields();
        sizes();
        for (Bytecode.Code code : METHODS.values()) {
            steps(code);
            library(code);
        }
        depths();
        words();
        Checks.finish();
    }

    /** The tests below are worth nothing if javap's words are not understood. */
    private static void everyMethodIsRead() {
        for (Class<?> type : TYPES) {
            for (Method method : type.getDeclaredMethods()) {
                String name = type.getName() + "." + method.getName();
                Checks.isTrue(name + " is read", METHODS.containsKey(name) && !METHODS.get(name).steps.isEmpty());
            }
        }
        Checks.isTrue("calls are read",
                METHODS.get("WordEquations.load").calls.contains("WordEquations$History.forget"));
        Checks.isTrue("calls in one class are read",
                METHODS.get("WordEquations.satisfies").calls.contains("WordEquations.holdsFor"));
        Checks.isTrue("lines are read", METHODS.get("WordEquations.load").lastLine > 0);
    }

    /** Rule 5: constants alone. */
    private static void staticFields() {
        for (Class<?> type : TYPES) {
            for (Field field : type.getDeclaredFields()) {
                if (Modifier.isStatic(field.getModifiers())) {
                    Checks.isTrue(field + " is a constant",
                            Modifier.isFinal(field.getModifiers()) && CONSTANTS.contains(field.getType()));
                }
            }
        }
    }

    /** Rule 11: parameters, lines, classes and fields. */
    private static void sizes() {
        Checks.isTrue("at most " + CLASSES + " classes", TYPES.size() <= CLASSES);
        for (Class<?> type : TYPES) {
            int fields = 0;
            for (Field field : type.getDeclaredFields()) {
                fields += Modifier.isStatic(field.getModifiers()) ? 0 : 1;
            }
            Checks.isTrue(type + " has at most " + FIELDS + " fields", fields <= FIELDS);
            for (Method method : type.getDeclaredMethods()) {
                Checks.isTrue(method + " takes at most " + PARAMETERS, method.getParameterCount() <= PARAMETERS);
            }
        }
        for (Bytecode.Code code : METHODS.values()) {
            // A constructor's lines are also those of the fields that it fills.
            Checks.isTrue(code.name + " has at most " + LINES + " lines",
                    code.isConstructor() || code.lastLine - code.firstLine < LINES);
        }
    }

    /** Rules 2 and 6: no lambda, throw, catch or synchronized; and only constructors make objects and arrays. */
    private static void steps(Bytecode.Code code) {
        Checks.isTrue(code.name + " catches nothing", !code.catches);
        for (String step : code.steps) {
            boolean forbidden = step.equals("athrow") || step.equals("invokedynamic") || step.startsWith("monitor")
                    || step.equals("putstatic");
            Checks.isTrue(code.name + " has no " + step, !forbidden);
            boolean makes = step.equals("new") || step.endsWith("newarray");
            Checks.isTrue(code.name + " makes nothing by " + step, !makes || code.isConstructor());
        }
    }

    /** Rule 4, as far as the class needs it and without what makes an object. */
    private static void library(Bytecode.Code code) {
        for (String called : code.calls) {
            Checks.isTrue(code.name + " may call " + called, METHODS.containsKey(called) || LIBRARY.contains(called));
        }
    }

    /** Rule 11: "calls that are no recursion go at most eight deep". */
    private static void depths() {
        for (Method method : WordEquations.class.getDeclaredMethods()) {
            Deque<String> open = new ArrayDeque<>();
            Checks.isTrue(method.getName() + " goes at most " + DEPTH + " deep",
                    depth(WordEquations.class.getName() + "." + method.getName(), open) <= DEPTH);
        }
    }

    /** The longest chain of calls in which no method stands twice. */
    private static int depth(String name, Deque<String> open) {
        if (!METHODS.containsKey(name) || open.contains(name)) {
            return 0;
        }
        open.push(name);
        int deepest = 0;
        for (String called : METHODS.get(name).calls) {
            deepest = Math.max(deepest, depth(called, open));
        }
        open.pop();
        return deepest + 1;
    }

    /** Words and characters that no part of the source has; comments and texts are not looked at for words. */
    private static void words() throws IOException {
        String text = Files.readString(SOURCE);
        String code = text.replaceAll("(?s)/\\*.*?\\*/", " ").replaceAll("//[^\n]*", " ")
                .replaceAll("'(\\\\.|[^'])'", "0").replaceAll("\"[^\"]*\"", "0");
        Matcher forbidden = Pattern.compile("\\b(throw|throws|try|catch|finally|synchronized|assert|import|package"
                + "|equals|hashCode|toString|\\w*Exact|Object|protected|volatile|transient|native|var)\\b|->|::")
                .matcher(code);
        while (forbidden.find()) {
            Checks.isTrue("the source is free of " + forbidden.group(), false);
        }
        for (char c : text.toCharArray()) {
            Checks.isTrue("the source has no character " + (int) c, c == '\n' || c >= 32 && c < 127);
        }
    }
}
