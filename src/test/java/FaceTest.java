import java.io.IOException;
import java.lang.reflect.Constructor;
import java.lang.reflect.Field;
import java.lang.reflect.Method;
import java.lang.reflect.Modifier;
import java.nio.file.Files;
import java.nio.file.Path;
import java.util.Set;
import java.util.TreeSet;
import java.util.regex.Matcher;
import java.util.regex.Pattern;

/** The public face of the document, and the rules of LANGUAGE.md that a test can read from the class and its source. */
public final class FaceTest {
    private static final Path SOURCE = Path.of("src/main/java/WordEquations.java");
    private static final String METHODS = "append(int) clearText() errorPosition() load() sideLength(int) "
            + "symbolAt(int,int) occurrences(int,int) swapSides() reverse() cancel() exchangeLetters() eliminate(int) "
            + "substitute(int) undo() satisfies(int,int,int,int) countSolutions(int) firstSolution(int,int) "
            + "leastTotalLength(int) countLengths(int) refutedByCounting() decide() nodeCount() proofLength() "
            + "proofRule(int) witnessLength(int) witnessLetter(int,int) runScript(int,long) randomChecks(long,int) "
            + "save(int) restore(int)";
    private static final String CONSTANTS = "NO_SUCH_INDEX=-1 BAD_VALUE=-2 NOT_POSSIBLE=-3 FULL=-4 NONE=-9 "
            + "UNSATISFIABLE=0 SATISFIABLE=1 UNKNOWN=2";

    public static void main(String[] args) throws IOException, IllegalAccessException {
        Checks.isTrue("the class is public and final",
                Modifier.toString(WordEquations.class.getModifiers()).equals("public final"));
        methods();
        constants();
        constructors();
        classesInside();
        source();
        Checks.finish();
    }

    private static Set<String> words(String text) {
        return new TreeSet<>(Set.of(text.split(" ")));
    }

    private static String signature(Method method) {
        StringBuilder types = new StringBuilder();
        for (Class<?> type : method.getParameterTypes()) {
            types.append(types.length() == 0 ? "" : ",").append(type.getSimpleName());
        }
        return method.getName() + "(" + types + ")";
    }

    private static void methods() {
        Set<String> found = new TreeSet<>();
        for (Method method : WordEquations.class.getDeclaredMethods()) {
            int modifiers = method.getModifiers();
            if (Modifier.isPublic(modifiers)) {
                Checks.isTrue(method + " is an int method of the object",
                        method.getReturnType() == int.class && !Modifier.isStatic(modifiers));
                found.add(signature(method));
            } else {
                Checks.isTrue(method + " is private", Modifier.isPrivate(modifiers));
            }
        }
        Checks.isTrue("the methods are those of the document: " + found, found.equals(words(METHODS)));
    }

    private static void constants() throws IllegalAccessException {
        Set<String> found = new TreeSet<>();
        for (Field field : WordEquations.class.getDeclaredFields()) {
            int modifiers = field.getModifiers();
            if (Modifier.isPublic(modifiers)) {
                Checks.isTrue(field + " is a constant",
                        Modifier.isStatic(modifiers) && Modifier.isFinal(modifiers) && field.getType() == int.class);
                found.add(field.getName() + "=" + field.getInt(null));
            } else {
                Checks.isTrue(field + " is private", Modifier.isPrivate(modifiers));
            }
        }
        Checks.isTrue("the constants are those of the document: " + found, found.equals(words(CONSTANTS)));
    }

    private static void constructors() {
        Constructor<?>[] found = WordEquations.class.getDeclaredConstructors();
        Checks.due("constructors", found.length, 1);
        Checks.isTrue("the constructor is public and takes nothing",
                found[0].getParameterCount() == 0 && Modifier.isPublic(found[0].getModifiers()));
    }

    private static void classesInside() {
        Set<String> taken = new TreeSet<>();
        for (String signature : METHODS.split(" ")) {
            taken.add(signature.substring(0, signature.indexOf('(')));
        }
        Class<?>[] inside = WordEquations.class.getDeclaredClasses();
        Checks.isTrue("at most twelve classes", inside.length + 1 <= 12);
        for (Class<?> type : inside) {
            int modifiers = type.getModifiers();
            Checks.isTrue(type + " is static and not public", Modifier.isStatic(modifiers)
                    && !Modifier.isPublic(modifiers) && !Modifier.isProtected(modifiers));
            for (Method method : type.getDeclaredMethods()) {
                Checks.isTrue(method + " has a name of its own", !taken.contains(method.getName()));
                Checks.isTrue(method + " has at most seven parameters", method.getParameterCount() <= 7);
            }
            for (Field field : type.getDeclaredFields()) {
                Checks.isTrue(field + " is final if it is static",
                        !Modifier.isStatic(field.getModifiers()) || Modifier.isFinal(field.getModifiers()));
            }
        }
    }

    private static void source() throws IOException {
        String text = Files.readString(SOURCE);
        String code = text.replaceAll("(?s)/\\*.*?\\*/", " ").replaceAll("//[^\n]*", " ")
                .replaceAll("'(\\\\.|[^'])'", "0").replaceAll("\"[^\"]*\"", "0");
        Matcher forbidden = Pattern.compile("\\b(throw|throws|try|catch|finally|synchronized|assert|import|package"
                + "|equals|hashCode|toString|\\w*Exact|Object)\\b|->|::").matcher(code);
        while (forbidden.find()) {
            Checks.isTrue("the source is free of " + forbidden.group(), false);
        }
        for (char c : text.toCharArray()) {
            Checks.isTrue("the source has no character " + (int) c, c == '\n' || c >= 32 && c < 127);
        }
    }
}
