/** The five examples of the document, as they stand there. */
public final class ExamplesTest {
    public static void main(String[] args) {
        commutingVariable();
        noSolution();
        textThatEndsTooSoon();
        lengthConstraint();
        cancelledEquation();
        Checks.finish();
    }

    /** Each character's append answers the new length of the text. */
    private static void appendAll(WordEquations x, int... codes) {
        for (int i = 0; i < codes.length; i++) {
            Checks.due("append(" + codes[i] + ")", x.append(codes[i]), i + 1);
        }
    }

    private static void commutingVariable() {
        WordEquations x = new WordEquations();
        appendAll(x, 88, 97, 61, 97, 88);
        Checks.due("1: load()", x.load(), 0);
        Checks.due("1: countSolutions(2)", x.countSolutions(2), 3);
        Checks.due("1: decide()", x.decide(), 1);
        Checks.due("1: proofLength()", x.proofLength(), 2);
        Checks.due("1: proofRule(0)", x.proofRule(0), 1);
        Checks.due("1: witnessLength(1)", x.witnessLength(1), 0);
    }

    private static void noSolution() {
        WordEquations x = new WordEquations();
        appendAll(x, 88, 97, 61, 98, 88);
        Checks.due("2: load()", x.load(), 0);
        Checks.due("2: refutedByCounting()", x.refutedByCounting(), 1);
        Checks.due("2: decide()", x.decide(), 0);
        Checks.due("2: nodeCount()", x.nodeCount(), 2);
    }

    private static void textThatEndsTooSoon() {
        WordEquations x = new WordEquations();
        appendAll(x, 97, 88, 61, 59);
        Checks.due("3: errorPosition()", x.errorPosition(), 4);
        Checks.due("3: load()", x.load(), -3);
    }

    private static void lengthConstraint() {
        WordEquations x = new WordEquations();
        appendAll(x, 88, 89, 61, 97, 97, 98, 59, 88, 62, 48);
        Checks.due("4: load()", x.load(), 1);
        Checks.due("4: countSolutions(3)", x.countSolutions(3), 3);
        Checks.due("4: firstSolution(3, 1)", x.firstSolution(3, 1), 1);
        Checks.due("4: firstSolution(3, 2)", x.firstSolution(3, 2), 4);
        Checks.due("4: leastTotalLength(3)", x.leastTotalLength(3), 3);
        Checks.due("4: satisfies(0, 0, 8, 0)", x.satisfies(0, 0, 8, 0), 0);
    }

    private static void cancelledEquation() {
        WordEquations x = new WordEquations();
        appendAll(x, 97, 88, 98, 61, 97, 89, 98);
        Checks.due("5: load()", x.load(), 0);
        Checks.due("5: cancel()", x.cancel(), 2);
        Checks.due("5: sideLength(0)", x.sideLength(0), 1);
        Checks.due("5: symbolAt(0, 0)", x.symbolAt(0, 0), 88);
        Checks.due("5: eliminate(1)", x.eliminate(1), 1);
        Checks.due("5: sideLength(0)", x.sideLength(0), 0);
        Checks.due("5: undo()", x.undo(), 1);
    }
}
