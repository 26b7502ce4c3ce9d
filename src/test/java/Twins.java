import java.util.List;
import java.util.function.Consumer;
import java.util.function.Function;
import java.util.function.Supplier;

/**
 * Two objects with the same past, of which one gets a call that must change nothing; afterwards both are asked for all
 * that the face can tell. Many questions change the object that they are put to, so each has twins of its own.
 */
final class Twins {
    /** A call whose answer is looked at. */
    interface Call {
        int on(WordEquations x);
    }

    private static final List<Function<WordEquations, String>> QUESTIONS = List.of(
            Checks::shown, Twins::constraints, Twins::textLength, Twins::textAsEquation, Twins::textAsSymbols,
            Twins::remembered, Twins::slots, Twins::answers);

    private static final List<Supplier<WordEquations>> PASTS = List.of(
            WordEquations::new, Twins::used, Twins::full, Twins::undone);

    private Twins() {
    }

    /** The call has this answer, and changes nothing, whatever the past. */
    static void refused(String name, Call call, int want) {
        for (int past = 0; past < PASTS.size(); past++) {
            refused(name + " after past " + past, PASTS.get(past), call, want);
        }
    }

    /** The call has this answer, and changes nothing. */
    static void refused(String name, Supplier<WordEquations> past, Call call, int want) {
        Checks.due(name, call.on(past.get()), want);
        keepsAll(name, past, call::on);
    }

    /** The call changes nothing, whatever the past. */
    static void keepsAll(String name, Consumer<WordEquations> call) {
        for (int past = 0; past < PASTS.size(); past++) {
            keepsAll(name + " after past " + past, PASTS.get(past), call);
        }
    }

    static void keepsAll(String name, Supplier<WordEquations> past, Consumer<WordEquations> call) {
        for (Function<WordEquations, String> question : QUESTIONS) {
            WordEquations called = past.get();
            call.accept(called);
            String got = question.apply(called);
            String want = question.apply(past.get());
            Checks.isTrue(name + " changes nothing, but " + want + " became " + got, got.equals(want));
        }
    }

    /** The call changes something, and one of the questions tells it. */
    static void noticed(String name, Supplier<WordEquations> past, Call call) {
        boolean noticed = false;
        for (Function<WordEquations, String> question : QUESTIONS) {
            WordEquations called = past.get();
            call.on(called);
            noticed |= !question.apply(called).equals(question.apply(past.get()));
        }
        Checks.isTrue("the twins notice " + name, noticed);
    }

    // ---- pasts

    /** Constraints, actions, one slot, and a text of symbols. */
    static WordEquations used() {
        WordEquations x = Checks.loaded("aXW=YaZ;W<4;X>0;Y=2;Z<9");
        x.swapSides();
        x.save(1);
        x.exchangeLetters();
        Checks.type(x, "ZX");
        x.substitute(1);
        return x;
    }

    /** Sides of 12 symbols, 14 remembered equations, two slots and a text of 40 characters. */
    static WordEquations full() {
        WordEquations x = Checks.loaded("X=Y;X>0;X<9;Y>0;Y<9");
        x.save(0);
        Checks.type(x, "aX");
        for (int i = 0; i < 11; i++) {
            x.substitute(1);
        }
        Checks.type(x, "aaaaaaaaaaaY");
        x.substitute(2);
        x.save(1);
        x.reverse();
        x.swapSides();
        x.exchangeLetters();
        Checks.type(x, "abWXYZabWXYZabWXYZabWXYZabWXYZabWXYZabWX");
        return x;
    }

    /** Everything has been taken back; the text is the one that was loaded. */
    static WordEquations undone() {
        WordEquations x = Checks.loaded("WX=XW;W>1");
        x.reverse();
        x.eliminate(0);
        x.undo();
        x.undo();
        return x;
    }

    // ---- questions

    /** In each past the letters of both sides are the same: without variables, the constraints alone decide. */
    private static String constraints(WordEquations x) {
        StringBuilder told = new StringBuilder();
        told.append(x.countSolutions(2)).append(' ').append(x.countLengths(9));
        for (int variable = 0; variable < 4; variable++) {
            x.eliminate(variable);
        }
        x.cancel();
        for (int number = 0; number <= 62; number = 2 * number + 1) {
            for (int variable = 0; variable < 4; variable++) {
                told.append(' ').append(x.satisfies(variable == 0 ? number : 3, variable == 1 ? number : 3,
                        variable == 2 ? number : 3, variable == 3 ? number : 3));
            }
        }
        return told.toString();
    }

    private static String textLength(WordEquations x) {
        return x.errorPosition() + " " + x.append('a') + " " + x.errorPosition() + " " + x.clearText();
    }

    private static String textAsEquation(WordEquations x) {
        return x.load() + " " + Checks.shown(x) + " " + x.countLengths(9);
    }

    private static String textAsSymbols(WordEquations x) {
        StringBuilder told = new StringBuilder();
        for (int variable = 0; variable < 4; variable++) {
            told.append(x.substitute(variable)).append(' ').append(Checks.shown(x)).append(' ');
        }
        return told.toString();
    }

    private static String remembered(WordEquations x) {
        StringBuilder told = new StringBuilder();
        for (int i = 0; i < 16; i++) {
            told.append(x.undo()).append(' ').append(Checks.shown(x)).append(' ');
        }
        return told.toString();
    }

    private static String slots(WordEquations x) {
        return x.restore(0) + " " + Checks.shown(x) + " " + x.restore(1) + " " + Checks.shown(x) + " " + x.undo();
    }

    private static String answers(WordEquations x) {
        return x.decide() + " " + x.nodeCount() + " " + x.proofLength() + " " + Checks.proof(x) + " "
                + Checks.witness(x, 0) + " " + Checks.witness(x, 1) + " " + Checks.witness(x, 2) + " "
                + Checks.witness(x, 3) + " " + x.firstSolution(3, 1) + " " + x.leastTotalLength(3) + " "
                + x.refutedByCounting() + " " + x.runScript(2, 100501L) + " " + x.randomChecks(3, 200);
    }
}
