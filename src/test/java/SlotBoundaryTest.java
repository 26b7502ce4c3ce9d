/**
 * The boundary cases of the promises 30 and 31. Each test stands under the sentence of the document that it holds to.
 */
public final class SlotBoundaryTest {
    public static void main(String[] args) {
        slots();
        emptySlot();
        oneOfTwoSlots();
        slotWithTheEmptyEquation();
        fullSides();
        saveOverASlot();
        slotKeepsItsEquation();
        saveKeepsTheRest();
        restoreForgetsAll();
        restoreKeepsTheRest();
        refusedRestoreForgetsNothing();
        orderOfErrors();
        Checks.finish();
    }

    /** "slot: 0 or 1", "NO_SUCH_INDEX if slot is not 0 or 1". */
    private static void slots() {
        WordEquations x = Checks.loaded("aX=b");
        for (int bad : Checks.outside(0, 1)) {
            Checks.due("save(" + bad + ")", x.save(bad), WordEquations.NO_SUCH_INDEX);
            Checks.due("restore(" + bad + ")", x.restore(bad), WordEquations.NO_SUCH_INDEX);
        }
        Checks.due("no slot was filled: restore(0)", x.restore(0), WordEquations.NOT_POSSIBLE);
        Checks.due("no slot was filled: restore(1)", x.restore(1), WordEquations.NOT_POSSIBLE);
        Checks.due("save(0)", x.save(0), 3);
        Checks.due("save(1)", x.save(1), 3);
        for (int bad : Checks.outside(0, 1)) {
            Checks.due("both full: save(" + bad + ")", x.save(bad), WordEquations.NO_SUCH_INDEX);
            Checks.due("both full: restore(" + bad + ")", x.restore(bad), WordEquations.NO_SUCH_INDEX);
        }
    }

    /** restore: "NOT_POSSIBLE if the slot is empty": on a new object, and after load. */
    private static void emptySlot() {
        WordEquations x = new WordEquations();
        Checks.due("new: restore(0)", x.restore(0), WordEquations.NOT_POSSIBLE);
        Checks.due("new: restore(1)", x.restore(1), WordEquations.NOT_POSSIBLE);
        x = Checks.loaded("aX=b");
        x.save(0);
        x.save(1);
        x.load();
        Checks.due("after load(): restore(0)", x.restore(0), WordEquations.NOT_POSSIBLE);
        Checks.due("after load(): restore(1)", x.restore(1), WordEquations.NOT_POSSIBLE);
    }

    /** The same sentence: the other slot does not matter. */
    private static void oneOfTwoSlots() {
        for (int slot = 0; slot < 2; slot++) {
            WordEquations x = Checks.loaded("aX=b");
            x.save(slot);
            x.swapSides();
            Checks.due("slot " + (1 - slot) + " is empty", x.restore(1 - slot), WordEquations.NOT_POSSIBLE);
            Checks.dueEquation("a refused restore", x, "b=aX");
            Checks.due("slot " + slot + " is not", x.restore(slot), 3);
            Checks.dueEquation("restore(" + slot + ")", x, "aX=b");
        }
    }

    /** A slot with the equation of two empty sides is not empty. */
    private static void slotWithTheEmptyEquation() {
        for (int slot = 0; slot < 2; slot++) {
            WordEquations x = new WordEquations();
            Checks.due("save(" + slot + ") of =", x.save(slot), 0);
            x.reverse();
            Checks.due("restore(" + slot + ") of =", x.restore(slot), 0);
            Checks.due("it forgets: undo()", x.undo(), WordEquations.NOT_POSSIBLE);
        }
    }

    /** "Returns the number of symbols of both sides together": 24 at most. */
    private static void fullSides() {
        WordEquations x = Checks.of("abWXYbabWXYZ", "bbbbbbbbbbbb");
        Checks.due("save(1) of full sides", x.save(1), 24);
        x.eliminate(0);
        Checks.due("save(0) of fewer symbols", x.save(0), 22);
        Checks.due("restore(1) of full sides", x.restore(1), 24);
        Checks.dueEquation("restore(1)", x, "abWXYbabWXYZ=bbbbbbbbbbbb");
        Checks.due("restore(0)", x.restore(0), 22);
        Checks.dueEquation("restore(0)", x, "abXYbabXYZ=bbbbbbbbbbbb");
        x = Checks.of("", "bbbbbbbbbbbZ");
        Checks.due("save(0) of one full side", x.save(0), 12);
    }

    /** save: "Stores the present equation in a slot": a full slot takes it, too. */
    private static void saveOverASlot() {
        WordEquations x = Checks.loaded("aX=b");
        x.save(0);
        x.save(1);
        x.eliminate(1);
        Checks.due("save(1) over a full slot", x.save(1), 2);
        Checks.due("restore(0)", x.restore(0), 3);
        Checks.dueEquation("restore(0)", x, "aX=b");
        Checks.due("restore(1)", x.restore(1), 2);
        Checks.dueEquation("restore(1)", x, "a=b");
    }

    /** restore: "The slot keeps its equation." */
    private static void slotKeepsItsEquation() {
        WordEquations x = Checks.loaded("aX=b");
        x.save(0);
        for (int i = 0; i < 20; i++) {
            x.exchangeLetters();
            x.swapSides();
            Checks.due("restore(0) again", x.restore(0), 3);
            Checks.dueEquation("restore(0) again", x, "aX=b");
        }
    }

    /** save is not an action, and changes nothing but the slot. */
    private static void saveKeepsTheRest() {
        WordEquations x = Checks.loaded("aX=b;X<2");
        for (int i = 0; i < 15; i++) {
            x.swapSides();
        }
        x.save(0);
        x.save(1);
        Checks.dueEquation("save", x, "b=aX");
        Checks.due("save: the text", x.clearText(), 8);
        Checks.due("save: the constraints", x.countLengths(9), 1);
        for (int left = 13; left >= 0; left--) {
            Checks.due("save: undo()", x.undo(), left);
        }
        Checks.due("save: undo() too often", x.undo(), WordEquations.NOT_POSSIBLE);
    }

    /** restore: "Replaces the equation by the one in a slot, and forgets all remembered equations": none or 14. */
    private static void restoreForgetsAll() {
        for (int actions = 0; actions <= 16; actions++) {
            WordEquations x = Checks.loaded("aX=b");
            x.save(1);
            for (int i = 0; i < actions; i++) {
                x.reverse();
            }
            Checks.due("restore(1) after " + actions + " actions", x.restore(1), 3);
            Checks.due("then undo()", x.undo(), WordEquations.NOT_POSSIBLE);
            Checks.dueEquation("restore(1)", x, "aX=b");
            x.swapSides();
            Checks.due("an action behind it: undo()", x.undo(), 0);
        }
    }

    /** restore: "The length constraints stay", and so do the text and the other slot. */
    private static void restoreKeepsTheRest() {
        WordEquations x = Checks.loaded("X=X;X>0;X<2;W<1;Z=0");
        x.save(0);
        x.eliminate(1);
        x.save(1);
        Checks.due("without X: countSolutions(3)", x.countSolutions(3), 0);
        x.restore(0);
        Checks.due("restore(0): countSolutions(3)", x.countSolutions(3), 2);
        x.restore(1);
        Checks.due("restore(1): countSolutions(3)", x.countSolutions(3), 0);
        Checks.due("restore(1): satisfies(0, 1, 62, 0)", x.satisfies(0, 1, 62, 0), 1);
        Checks.due("the text stays: load()", x.load(), 4);
    }

    /** "A call that returns an error changes nothing": a refused restore forgets nothing. */
    private static void refusedRestoreForgetsNothing() {
        WordEquations x = Checks.loaded("aX=b");
        for (int i = 0; i < 14; i++) {
            x.swapSides();
        }
        x.restore(0);
        x.restore(1);
        x.restore(2);
        x.restore(-1);
        Checks.due("refused: undo()", x.undo(), 13);
        Checks.dueEquation("undo()", x, "b=aX");
    }

    /** restore: NO_SUCH_INDEX is listed before NOT_POSSIBLE; a slot that does not exist is no empty slot. */
    private static void orderOfErrors() {
        WordEquations x = new WordEquations();
        for (int bad : Checks.outside(0, 1)) {
            Checks.due("all slots are empty: restore(" + bad + ")", x.restore(bad), WordEquations.NO_SUCH_INDEX);
        }
    }
}
