/** Promise 1: a new object; it shares nothing with another one. */
public final class NewObjectTest {
    public static void main(String[] args) {
        hasEmptyEquation();
        hasNothingElse();
        sharesNothing();
        Checks.finish();
    }

    private static void hasEmptyEquation() {
        WordEquations x = new WordEquations();
        Checks.due("new: sideLength(0)", x.sideLength(0), 0);
        Checks.due("new: sideLength(1)", x.sideLength(1), 0);
        Checks.due("new: symbolAt(0, 0)", x.symbolAt(0, 0), -1);
        Checks.due("new: decide()", x.decide(), 1);
        Checks.due("new: countSolutions(3)", x.countSolutions(3), 1);
        Checks.due("new: satisfies(62, 62, 62, 62)", x.satisfies(62, 62, 62, 62), 1);
    }

    private static void hasNothingElse() {
        WordEquations x = new WordEquations();
        Checks.due("new: undo()", x.undo(), -3);
        Checks.due("new: restore(0)", x.restore(0), -3);
        Checks.due("new: restore(1)", x.restore(1), -3);
        Checks.due("new: errorPosition()", x.errorPosition(), 0);
        Checks.due("new: clearText()", x.clearText(), 0);
    }

    private static void sharesNothing() {
        WordEquations used = Checks.loaded("aX=Yb;X>1");
        used.save(0);
        used.reverse();
        WordEquations fresh = new WordEquations();
        Checks.dueEquation("new WordEquations()", fresh, "=");
        Checks.due("fresh: clearText()", fresh.clearText(), 0);
        Checks.due("fresh: undo()", fresh.undo(), -3);
        Checks.due("fresh: restore(0)", fresh.restore(0), -3);
        Checks.due("fresh: satisfies(0, 0, 0, 0)", fresh.satisfies(0, 0, 0, 0), 1);
        Checks.dueEquation("reverse()", used, "Xa=bY");
    }
}
