/**
 * The boundary cases of ERRORS: every call that is refused changes nothing, whatever went before, and of several errors
 * the one that is listed first is answered. And an object answers until its 512th call.
 */
public final class ErrorBoundaryTest {
    public static void main(String[] args) {
        refusedTextCalls();
        refusedReading();
        refusedActions();
        refusedSubstitutions();
        refusedUndo();
        refusedQuestions();
        refusedSearchQuestions();
        refusedScripts();
        refusedSlots();
        questionsChangeNothing();
        twinsNoticeChanges();
        firstListedError();
        fiveHundredAndTwelveCalls();
        Checks.finish();
    }

    /** "A call that returns an error changes nothing": append and load. */
    private static void refusedTextCalls() {
        for (int bad : Checks.outside(0, 255)) {
            Twins.refused("append(" + bad + ")", x -> x.append(bad), WordEquations.BAD_VALUE);
        }
        Twins.refused("append(97) to a full text", Twins::full, x -> x.append('a'), WordEquations.FULL);
        Twins.refused("append(61) to a full text", Twins::full, x -> x.append('='), WordEquations.FULL);
        Twins.refused("load() of no text", WordEquations::new, WordEquations::load, WordEquations.NOT_POSSIBLE);
        Twins.refused("load() of symbols", Twins::used, WordEquations::load, WordEquations.NOT_POSSIBLE);
        Twins.refused("load() of a full text", Twins::full, WordEquations::load, WordEquations.NOT_POSSIBLE);
    }

    /** The same sentence: sideLength, symbolAt, occurrences. */
    private static void refusedReading() {
        for (int bad : Checks.outside(0, 1)) {
            Twins.refused("sideLength(" + bad + ")", x -> x.sideLength(bad), WordEquations.NO_SUCH_INDEX);
            Twins.refused("symbolAt(" + bad + ", 0)", x -> x.symbolAt(bad, 0), WordEquations.NO_SUCH_INDEX);
            Twins.refused("occurrences(" + bad + ", 0)", x -> x.occurrences(bad, 0), WordEquations.NO_SUCH_INDEX);
        }
        for (int bad : Checks.outside(0, 11)) {
            Twins.refused("symbolAt(1, " + bad + ")", x -> x.symbolAt(1, bad), WordEquations.NO_SUCH_INDEX);
        }
        for (int bad : Checks.outside(0, 3)) {
            Twins.refused("occurrences(1, " + bad + ")", x -> x.occurrences(1, bad), WordEquations.NO_SUCH_INDEX);
        }
    }

    /** The same sentence: eliminate, and substitute for what is no variable. */
    private static void refusedActions() {
        for (int bad : Checks.outside(0, 3)) {
            Twins.refused("eliminate(" + bad + ")", x -> x.eliminate(bad), WordEquations.NO_SUCH_INDEX);
            Twins.refused("substitute(" + bad + ")", x -> x.substitute(bad), WordEquations.NO_SUCH_INDEX);
        }
    }

    /** The same sentence: substitute by a text that is too long, or has what is not a symbol. */
    private static void refusedSubstitutions() {
        Twins.refused("substitute(1) by 40 symbols", Twins::full, x -> x.substitute(1), WordEquations.FULL);
        Twins.refused("substitute(2) by 40 symbols", Twins::full, x -> x.substitute(2), WordEquations.FULL);
        for (int variable = 0; variable < 4; variable++) {
            int asked = variable;
            Twins.refused("substitute(" + asked + ") by an equation", Twins::undone, x -> x.substitute(asked),
                    WordEquations.NOT_POSSIBLE);
        }
    }

    /** The same sentence: undo when nothing is remembered. */
    private static void refusedUndo() {
        Twins.refused("undo() on a new object", WordEquations::new, WordEquations::undo, WordEquations.NOT_POSSIBLE);
        Twins.refused("undo() too often", Twins::undone, WordEquations::undo, WordEquations.NOT_POSSIBLE);
    }

    /** The same sentence: satisfies, countSolutions, firstSolution, leastTotalLength, countLengths. */
    private static void refusedQuestions() {
        for (int bad : Checks.outside(0, 62)) {
            Twins.refused("satisfies, W is " + bad, x -> x.satisfies(bad, 0, 0, 0), WordEquations.BAD_VALUE);
            Twins.refused("satisfies, Z is " + bad, x -> x.satisfies(5, 5, 5, bad), WordEquations.BAD_VALUE);
        }
        for (int bad : Checks.outside(0, 3)) {
            Twins.refused("countSolutions(" + bad + ")", x -> x.countSolutions(bad), WordEquations.BAD_VALUE);
            Twins.refused("firstSolution(" + bad + ", 1)", x -> x.firstSolution(bad, 1), WordEquations.BAD_VALUE);
            Twins.refused("firstSolution(2, " + bad + ")", x -> x.firstSolution(2, bad), WordEquations.NO_SUCH_INDEX);
            Twins.refused("leastTotalLength(" + bad + ")", x -> x.leastTotalLength(bad), WordEquations.BAD_VALUE);
        }
        for (int bad : Checks.outside(0, 9)) {
            Twins.refused("countLengths(" + bad + ")", x -> x.countLengths(bad), WordEquations.BAD_VALUE);
        }
    }

    /** The same sentence: proofRule, witnessLength, witnessLetter. */
    private static void refusedSearchQuestions() {
        Twins.refused("proofRule(-1)", Twins::undone, x -> x.proofRule(-1), WordEquations.NO_SUCH_INDEX);
        Twins.refused("proofRule(0) of an empty proof", WordEquations::new, x -> x.proofRule(0),
                WordEquations.NO_SUCH_INDEX);
        for (int bad : Checks.outside(0, 3)) {
            Twins.refused("witnessLength(" + bad + ")", x -> x.witnessLength(bad), WordEquations.NO_SUCH_INDEX);
            Twins.refused("witnessLetter(" + bad + ", 0)", x -> x.witnessLetter(bad, 0), WordEquations.NO_SUCH_INDEX);
        }
        for (int bad : Checks.outside(0, 59)) {
            Twins.refused("witnessLetter(1, " + bad + ")", x -> x.witnessLetter(1, bad), WordEquations.NONE);
        }
    }

    /** The same sentence: runScript and randomChecks. */
    private static void refusedScripts() {
        for (int bad : Checks.outside(1, 4)) {
            Twins.refused("runScript(" + bad + ", 100)", x -> x.runScript(bad, 100), WordEquations.BAD_VALUE);
        }
        for (long bad : new long[] {-1, 1000, 100100, Long.MIN_VALUE, Long.MAX_VALUE}) {
            Twins.refused("runScript(1, " + bad + ")", x -> x.runScript(1, bad), WordEquations.BAD_VALUE);
        }
        for (int bad : Checks.outside(1, 200)) {
            Twins.refused("randomChecks(1, " + bad + ")", x -> x.randomChecks(1, bad), WordEquations.BAD_VALUE);
        }
    }

    /** The same sentence: save and restore. */
    private static void refusedSlots() {
        for (int bad : Checks.outside(0, 1)) {
            Twins.refused("save(" + bad + ")", x -> x.save(bad), WordEquations.NO_SUCH_INDEX);
            Twins.refused("restore(" + bad + ")", x -> x.restore(bad), WordEquations.NO_SUCH_INDEX);
        }
        Twins.refused("restore(0) of an empty slot", Twins::used, x -> x.restore(0), WordEquations.NOT_POSSIBLE);
        Twins.refused("restore(1) of an empty slot", Twins::undone, x -> x.restore(1), WordEquations.NOT_POSSIBLE);
        Twins.refused("restore(1) on a new object", WordEquations::new, x -> x.restore(1), WordEquations.NOT_POSSIBLE);
    }

    /** What is only asked is not changed, at both ends of what may be asked. */
    private static void questionsChangeNothing() {
        Twins.keepsAll("errorPosition()", WordEquations::errorPosition);
        Twins.keepsAll("sideLength(0)", x -> x.sideLength(0));
        Twins.keepsAll("symbolAt(1, 0)", x -> x.symbolAt(1, 0));
        Twins.keepsAll("occurrences(1, 3)", x -> x.occurrences(1, 3));
        for (int bound : new int[] {0, 3}) {
            Twins.keepsAll("countSolutions(" + bound + ")", x -> x.countSolutions(bound));
            Twins.keepsAll("firstSolution(" + bound + ", 3)", x -> x.firstSolution(bound, 3));
            Twins.keepsAll("leastTotalLength(" + bound + ")", x -> x.leastTotalLength(bound));
            Twins.keepsAll("countLengths(" + 3 * bound + ")", x -> x.countLengths(3 * bound));
        }
        Twins.keepsAll("satisfies(0, 0, 0, 0)", x -> x.satisfies(0, 0, 0, 0));
        Twins.keepsAll("satisfies(62, 62, 62, 62)", x -> x.satisfies(62, 62, 62, 62));
        Twins.keepsAll("refutedByCounting()", WordEquations::refutedByCounting);
        Twins.keepsAll("decide()", WordEquations::decide);
        Twins.keepsAll("nodeCount()", WordEquations::nodeCount);
        Twins.keepsAll("proofLength()", WordEquations::proofLength);
        Twins.keepsAll("proofRule(0)", x -> x.proofRule(0));
        Twins.keepsAll("witnessLength(3)", x -> x.witnessLength(3));
        Twins.keepsAll("witnessLetter(0, 0)", x -> x.witnessLetter(0, 0));
    }

    /** The tests above are worth nothing if the twins do not notice what a call that is not refused changes. */
    private static void twinsNoticeChanges() {
        Twins.noticed("append(97)", Twins::used, x -> x.append('a'));
        Twins.noticed("append(97) on a new object", WordEquations::new, x -> x.append('a'));
        Twins.noticed("clearText()", Twins::full, WordEquations::clearText);
        Twins.noticed("load()", ErrorBoundaryTest::usedWithAnEquationText, WordEquations::load);
        Twins.noticed("swapSides()", Twins::used, WordEquations::swapSides);
        Twins.noticed("an action on the equation of a new object", WordEquations::new, WordEquations::reverse);
        Twins.noticed("a fifteenth action", Twins::full, WordEquations::cancel);
        Twins.noticed("undo()", Twins::full, WordEquations::undo);
        Twins.noticed("save(0)", Twins::used, x -> x.save(0));
        Twins.noticed("save(1) over a full slot", Twins::used, x -> x.save(1));
        Twins.noticed("restore(1)", Twins::used, x -> x.restore(1));
    }

    private static WordEquations usedWithAnEquationText() {
        WordEquations x = Twins.used();
        Checks.type(x, "a=b");
        return x;
    }

    /** "If several errors apply to a call, the one that is listed first in the description ... is returned." */
    private static void firstListedError() {
        WordEquations x = Twins.full();
        Checks.due("append: BAD_VALUE, then FULL", x.append(-1), WordEquations.BAD_VALUE);
        Checks.due("append: FULL", x.append(0), WordEquations.FULL);
        Checks.due("substitute: NO_SUCH_INDEX, then FULL", x.substitute(4), WordEquations.NO_SUCH_INDEX);
        Checks.due("substitute: FULL", x.substitute(1), WordEquations.FULL);
        Checks.type(x, "aaaaaaaaaaaa;");
        Checks.due("substitute: NO_SUCH_INDEX, then both", x.substitute(-1), WordEquations.NO_SUCH_INDEX);
        Checks.due("substitute: NOT_POSSIBLE, then FULL", x.substitute(1), WordEquations.NOT_POSSIBLE);
        x = Checks.loaded("a=b");
        Checks.due("firstSolution: NO_SUCH_INDEX, then both", x.firstSolution(4, 4), WordEquations.NO_SUCH_INDEX);
        Checks.due("firstSolution: NO_SUCH_INDEX, then NONE", x.firstSolution(3, 4), WordEquations.NO_SUCH_INDEX);
        Checks.due("firstSolution: BAD_VALUE, then NONE", x.firstSolution(4, 3), WordEquations.BAD_VALUE);
        Checks.due("firstSolution: NONE", x.firstSolution(3, 3), WordEquations.NONE);
        Checks.due("leastTotalLength: BAD_VALUE, then NONE", x.leastTotalLength(4), WordEquations.BAD_VALUE);
        Checks.due("leastTotalLength: NONE", x.leastTotalLength(3), WordEquations.NONE);
        Checks.due("proofRule: NONE, then NO_SUCH_INDEX", x.proofRule(-1), WordEquations.NONE);
        Checks.due("witnessLength: NO_SUCH_INDEX, then NONE", x.witnessLength(4), WordEquations.NO_SUCH_INDEX);
        Checks.due("witnessLength: NONE", x.witnessLength(3), WordEquations.NONE);
        Checks.due("witnessLetter: NO_SUCH_INDEX, then NONE", x.witnessLetter(4, -1), WordEquations.NO_SUCH_INDEX);
        Checks.due("witnessLetter: NONE", x.witnessLetter(3, -1), WordEquations.NONE);
        Checks.due("restore: NO_SUCH_INDEX, then NOT_POSSIBLE", x.restore(2), WordEquations.NO_SUCH_INDEX);
        Checks.due("restore: NOT_POSSIBLE", x.restore(1), WordEquations.NOT_POSSIBLE);
    }

    /** "An object is used for at most 512 calls after it has been made": the last one is answered like the first. */
    private static void fiveHundredAndTwelveCalls() {
        WordEquations x = new WordEquations();
        int calls = 0;
        for (char c : "XYZW=WZYX;X<9".toCharArray()) {
            x.append(c);
            calls++;
        }
        Checks.due("load()", x.load(), 1);
        calls++;
        while (calls < 508) {
            x.reverse();
            Checks.due("call " + calls + ": countSolutions(1)", x.countSolutions(1), 41);
            calls += 2;
        }
        Checks.due("call 509: decide()", x.decide(), WordEquations.SATISFIABLE);
        Checks.due("call 510: nodeCount()", x.nodeCount(), 42);
        Checks.due("call 511: undo()", x.undo(), 13);
        Checks.due("call 512: countSolutions(3)", x.countSolutions(3), 1817);
        Checks.due("calls before the last four", calls, 508);
    }
}
