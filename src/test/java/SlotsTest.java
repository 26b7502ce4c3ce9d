/** Promises 30 and 31: save, restore. */
public final class SlotsTest {
    public static void main(String[] args) {
        saveAndRestore();
        emptySlots();
        noSuchSlots();
        savedEmptyEquation();
        restoreForgets();
        restoreKeepsConstraints();
        Checks.finish();
    }

    private static void saveAndRestore() {
        WordEquations x = Checks.loaded("aX=YZb");
        Checks.due("save(0)", x.save(0), 5);
        x.eliminate(3);
        Checks.due("save(1)", x.save(1), 4);
        x.eliminate(2);
        Checks.dueEquation("eliminate(2)", x, "aX=b");
        Checks.due("restore(0)", x.restore(0), 5);
        Checks.dueEquation("restore(0)", x, "aX=YZb");
        Checks.due("restore(1)", x.restore(1), 4);
        Checks.dueEquation("restore(1)", x, "aX=Yb");
        x.reverse();
        Checks.due("the slot keeps its equation: restore(0)", x.restore(0), 5);
        Checks.dueEquation("restore(0) again", x, "aX=YZb");
        x.swapSides();
        Checks.due("save(0) over the old one", x.save(0), 5);
        x.undo();
        Checks.due("restore(0) of the new one", x.restore(0), 5);
        Checks.dueEquation("restore(0) of the new one", x, "YZb=aX");
    }

    private static void emptySlots() {
        WordEquations x = Checks.loaded("X=a");
        x.reverse();
        Checks.due("restore(0) of an empty slot", x.restore(0), -3);
        x.save(0);
        Checks.due("restore(1) of an empty slot", x.restore(1), -3);
        Checks.due("a failed restore forgets nothing: undo()", x.undo(), 0);
    }

    private static void noSuchSlots() {
        WordEquations x = Checks.loaded("X=a");
        for (int bad : new int[] {-1, 2, Integer.MIN_VALUE, Integer.MAX_VALUE}) {
            Checks.due("save(" + bad + ")", x.save(bad), -1);
            Checks.due("restore(" + bad + ")", x.restore(bad), -1);
        }
        Checks.due("restore(0) after bad saves", x.restore(0), -3);
        Checks.due("restore(1) after bad saves", x.restore(1), -3);
    }

    /** A slot with the empty equation is not an empty slot. */
    private static void savedEmptyEquation() {
        WordEquations x = new WordEquations();
        Checks.due("save(1) of the empty equation", x.save(1), 0);
        Checks.due("restore(1) of the empty equation", x.restore(1), 0);
        Checks.due("restore(0) beside it", x.restore(0), -3);
    }

    private static void restoreForgets() {
        WordEquations x = Checks.loaded("X=ab");
        x.reverse();
        x.save(0);
        Checks.due("save is no action: undo()", x.undo(), 0);
        x.swapSides();
        x.swapSides();
        x.restore(0);
        Checks.due("restore forgets: undo()", x.undo(), -3);
        Checks.dueEquation("restore(0)", x, "X=ba");
        x.cancel();
        Checks.due("restore is no action: undo()", x.undo(), 0);
    }

    private static void restoreKeepsConstraints() {
        WordEquations x = Checks.loaded("X=Y;X=2");
        x.save(0);
        x.eliminate(1);
        x.restore(0);
        Checks.due("the constraints stay: countSolutions(3)", x.countSolutions(3), 4);
        Checks.due("the text stays: clearText()", x.clearText(), 7);
    }
}
