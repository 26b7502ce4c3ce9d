import java.io.IOException;
import java.lang.reflect.Constructor;
import java.lang.reflect.Field;
import java.lang.reflect.Method;
import java.lang.reflect.Modifier;
import java.util.List;
import java.util.Set;
import java.util.TreeSet;

/** The public face, as the document has it, and nothing beside it (LANGUAGE.md, rule 1). */
public final class FaceTest {
    private static final int PROMISES = 31;

    public static void main(String[] args) throws IOException, IllegalAccessException {
        Document document = Document.read();
        classLine(document);
        methods(document);
        constants(document);
        constructors();
        classesInside();
        promises(document);
        Checks.finish();
    }

    private static void classLine(Document document) {
        String line = Modifier.toString(WordEquations.class.getModifiers()) + " class WordEquations";
        Checks.isTrue(line + " is " + document.classLine(), line.equals(document.classLine()));
    }

    private static String signature(Method method) {
        StringBuilder types = new StringBuilder();
        for (Class<?> type : method.getParameterTypes()) {
            types.append(types.length() == 0 ? "" : ",").append(type.getSimpleName());
        }
        return method.getName() + "(" + types + ")";
    }

    private static void methods(Document document) {
        Set<String> want = new TreeSet<>();
        for (String signature : document.methods()) {
            want.add(signature.replaceAll("(int|long) \\w+", "$1").replace(" ", ""));
        }
        Set<String> got = new TreeSet<>();
        Set<String> names = new TreeSet<>();
        for (Method method : WordEquations.class.getDeclaredMethods()) {
            int modifiers = method.getModifiers();
            if (!Modifier.isPrivate(modifiers)) {
                Checks.isTrue(method + " is a public int method of the object", Modifier.isPublic(modifiers)
                        && method.getReturnType() == int.class && !Modifier.isStatic(modifiers));
                got.add(signature(method));
                names.add(method.getName());
            }
        }
        Checks.isTrue("the methods are " + want + ", not " + got, got.equals(want));
        noNameTwice(names);
    }

    /** "No private method bears the name of a public one", nor does a method of a class inside. */
    private static void noNameTwice(Set<String> names) {
        for (Method method : WordEquations.class.getDeclaredMethods()) {
            Checks.isTrue(method + " has a name of its own",
                    Modifier.isPublic(method.getModifiers()) || !names.contains(method.getName()));
        }
        for (Class<?> inside : WordEquations.class.getDeclaredClasses()) {
            for (Method method : inside.getDeclaredMethods()) {
                Checks.isTrue(method + " has a name of its own", !names.contains(method.getName()));
            }
        }
    }

    private static void constants(Document document) throws IllegalAccessException {
        Set<String> got = new TreeSet<>();
        for (Field field : WordEquations.class.getDeclaredFields()) {
            int modifiers = field.getModifiers();
            if (!Modifier.isPrivate(modifiers)) {
                Checks.isTrue(field + " is a public constant", Modifier.isPublic(modifiers)
                        && Modifier.isStatic(modifiers) && Modifier.isFinal(modifiers) && field.getType() == int.class);
                got.add(field.getName() + "=" + field.getInt(null));
            }
        }
        Set<String> want = new TreeSet<>(document.constants());
        Checks.isTrue("the constants are " + want + ", not " + got, got.equals(want));
        Set<String> listed = new TreeSet<>(document.listedConstants());
        Checks.isTrue("the list of the constants is " + listed + ", not " + got, got.equals(listed));
    }

    private static void constructors() {
        Constructor<?>[] found = WordEquations.class.getDeclaredConstructors();
        Checks.due("constructors", found.length, 1);
        Checks.isTrue("the constructor is public and takes nothing",
                found[0].getParameterCount() == 0 && Modifier.isPublic(found[0].getModifiers()));
    }

    private static void classesInside() {
        for (Class<?> type : WordEquations.class.getDeclaredClasses()) {
            int modifiers = type.getModifiers();
            Checks.isTrue(type + " is static and neither public nor protected", Modifier.isStatic(modifiers)
                    && !Modifier.isPublic(modifiers) && !Modifier.isProtected(modifiers));
        }
    }

    /** Each promise is the constructor or a method of the face, and each of these has its promise. */
    private static void promises(Document document) {
        List<String> promises = document.promises();
        Checks.due("promises", promises.size(), PROMISES);
        Checks.isTrue("promise 1 is the constructor", promises.get(0).equals("WordEquations()"));
        Checks.isTrue("the other promises are the methods of the face",
                promises.subList(1, promises.size()).equals(document.methods()));
    }
}
