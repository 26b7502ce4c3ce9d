import java.io.IOException;
import java.lang.reflect.Method;
import java.util.Arrays;
import java.util.List;

/** The five examples of the document, read from it: "Each of them begins with a new object". */
public final class ExamplesTest {
    private static final int EXAMPLES = 5;

    public static void main(String[] args) throws IOException, ReflectiveOperationException {
        Document document = Document.read();
        List<List<Document.Call>> examples = document.examples();
        Checks.due("examples in the document", examples.size(), EXAMPLES);
        int calls = 0;
        for (int i = 0; i < examples.size(); i++) {
            WordEquations x = new WordEquations();
            for (Document.Call call : examples.get(i)) {
                String name = "example " + (i + 1) + ": " + call.name() + Arrays.toString(call.arguments());
                Checks.due(name, answer(x, call), call.result());
                calls++;
            }
        }
        Checks.due("calls in the examples", calls, document.resultsInExamples());
        Checks.finish();
    }

    private static int answer(WordEquations x, Document.Call call) throws ReflectiveOperationException {
        for (Method method : WordEquations.class.getMethods()) {
            Class<?>[] types = method.getParameterTypes();
            if (method.getName().equals(call.name()) && types.length == call.arguments().length) {
                Object[] arguments = new Object[types.length];
                for (int i = 0; i < types.length; i++) {
                    long number = call.arguments()[i];
                    arguments[i] = types[i] == long.class ? (Object) number : (Object) (int) number;
                }
                return (int) method.invoke(x, arguments);
            }
        }
        throw new IllegalStateException("the class has no method for " + call.name());
    }
}
