/** Promises 9 to 15: swapSides, reverse, cancel, exchangeLetters, eliminate, substitute, undo. */
public final class ActionsTest {
    public static void main(String[] args) {
        swapSides();
        reverse();
        cancel();
        exchangeLetters();
        eliminate();
        substitute();
        substituteErrors();
        substituteByLongText();
        undo();
        rememberedEquations();
        errorsAreNoActions();
        actionsKeepTheRest();
        Checks.finish();
    }

    private static void swapSides() {
        WordEquations x = Checks.loaded("aXb=YZ");
        Checks.due("swapSides()", x.swapSides(), 2);
        Checks.dueEquation("swapSides()", x, "YZ=aXb");
        Checks.due("swapSides() again", x.swapSides(), 3);
        Checks.dueEquation("swapSides() again", x, "aXb=YZ");
    }

    private static void reverse() {
        WordEquations x = Checks.loaded("abX=WZYab");
        Checks.due("reverse()", x.reverse(), 8);
        Checks.dueEquation("reverse()", x, "Xba=baYZW");
        x = Checks.loaded("=ab");
        Checks.due("reverse() with an empty side", x.reverse(), 2);
        Checks.dueEquation("reverse()", x, "=ba");
    }

    private static void dueCancel(String text, int removed, String after) {
        WordEquations x = Checks.loaded(text);
        Checks.due("cancel() of " + text, x.cancel(), removed);
        Checks.dueEquation("cancel() of " + text, x, after);
        Checks.due("undo() of cancel()", x.undo(), 0);
        Checks.dueEquation("undo() of cancel()", x, text);
    }

    private static void cancel() {
        dueCancel("aXb=aYb", 2, "X=Y");
        dueCancel("abXY=abZY", 3, "X=Z");
        dueCancel("aXaXa=aXaXa", 5, "=");
        dueCancel("aaa=aa", 2, "a=");
        dueCancel("aa=aaa", 2, "=a");
        dueCancel("ab=aab", 2, "=a");
        dueCancel("Xa=aX", 0, "Xa=aX");
        dueCancel("Xab=Wab", 2, "X=W");
        dueCancel("=ab", 0, "=ab");
        dueCancel("ab=", 0, "ab=");
        dueCancel("=", 0, "=");
    }

    private static void exchangeLetters() {
        WordEquations x = Checks.loaded("aXbb=WabYZ");
        Checks.due("exchangeLetters()", x.exchangeLetters(), 5);
        Checks.dueEquation("exchangeLetters()", x, "bXaa=WbaYZ");
        x = Checks.loaded("WX=YZ");
        Checks.due("exchangeLetters() without letters", x.exchangeLetters(), 0);
        Checks.dueEquation("exchangeLetters() without letters", x, "WX=YZ");
        Checks.due("it is an action: undo()", x.undo(), 0);
    }

    private static void eliminate() {
        WordEquations x = Checks.loaded("XaXWX=bXYZX");
        Checks.due("eliminate(1)", x.eliminate(1), 5);
        Checks.dueEquation("eliminate(1)", x, "aW=bYZ");
        Checks.due("eliminate(0)", x.eliminate(0), 1);
        Checks.due("eliminate(2)", x.eliminate(2), 1);
        Checks.due("eliminate(3)", x.eliminate(3), 1);
        Checks.dueEquation("eliminate(3)", x, "a=b");
        Checks.due("eliminate(3) again", x.eliminate(3), 0);
        Checks.due("eliminate(-1)", x.eliminate(-1), -1);
        Checks.due("eliminate(-2)", x.eliminate(-2), -1);
        Checks.due("eliminate(4)", x.eliminate(4), -1);
        Checks.dueEquation("all of it", x, "a=b");
        Checks.due("undo() after five actions", x.undo(), 4);
    }

    private static void substitute() {
        WordEquations x = Checks.loaded("XaX=WX");
        Checks.type(x, "bXW");
        Checks.due("substitute(1)", x.substitute(1), 3);
        Checks.dueEquation("substitute(1)", x, "bXWabXW=WbXW");
        Checks.type(x, "");
        Checks.due("substitute(0) by nothing", x.substitute(0), 4);
        Checks.dueEquation("substitute(0) by nothing", x, "bXabX=bX");
        Checks.type(x, "YZ");
        Checks.due("substitute(3) of an unused variable", x.substitute(3), 0);
        Checks.dueEquation("substitute(3) of an unused variable", x, "bXabX=bX");
        Checks.due("all are actions: undo()", x.undo(), 2);
        Checks.due("the text is kept: clearText()", x.clearText(), 2);
    }

    private static void substituteErrors() {
        WordEquations x = Checks.loaded("XXX=X");
        Checks.type(x, "ababa");
        Checks.due("substitute(1) to 15 symbols", x.substitute(1), -4);
        Checks.due("substitute(4) to 15 symbols", x.substitute(4), -1);
        Checks.due("substitute(-1)", x.substitute(-1), -1);
        Checks.type(x, "abab=");
        Checks.due("substitute(1) by no symbol, too long", x.substitute(1), -3);
        Checks.due("substitute(4) by no symbol", x.substitute(4), -1);
        Checks.due("substitute(0) by no symbol, unused", x.substitute(0), -3);
        for (String text : new String[] {";", "A", "c", "V", " ", "0", "a" + (char) 0, "a" + (char) 255}) {
            Checks.type(x, text);
            Checks.due("substitute(1) by " + text, x.substitute(1), -3);
        }
        Checks.dueEquation("errors", x, "XXX=X");
        Checks.type(x, "abab");
        Checks.due("substitute(1) to 12 symbols", x.substitute(1), 4);
        Checks.dueEquation("substitute(1) to 12 symbols", x, "abababababab=abab");
        Checks.due("one action: undo()", x.undo(), 0);
        x.swapSides();
        Checks.type(x, "ababa");
        Checks.due("substitute(1) to 15 symbols on the right", x.substitute(1), -4);
    }

    private static void substituteByLongText() {
        WordEquations x = Checks.loaded("a=X");
        Checks.type(x, "abWXYZabWXYZ");
        Checks.due("substitute(1) by 12 symbols", x.substitute(1), 1);
        Checks.dueEquation("substitute(1) by 12 symbols", x, "a=abWXYZabWXYZ");
        x.undo();
        x.append('a');
        Checks.due("substitute(1) by 13 symbols", x.substitute(1), -4);
        Checks.due("substitute(2) by 13 symbols, unused", x.substitute(2), 0);
        Checks.dueEquation("substitute(2)", x, "a=X");
        Checks.type(x, "abababababababababababababababababababab");
        Checks.due("substitute(1) by 40 symbols", x.substitute(1), -4);
        Checks.due("substitute(0) by 40 symbols, unused", x.substitute(0), 0);
        Checks.due("two actions: undo()", x.undo(), 1);
    }

    private static void undo() {
        WordEquations x = Checks.loaded("aX=Yb");
        Checks.due("undo() without an action", x.undo(), -3);
        x.swapSides();
        x.reverse();
        x.exchangeLetters();
        Checks.dueEquation("three actions", x, "aY=Xb");
        Checks.due("undo() 1", x.undo(), 2);
        Checks.dueEquation("undo() 1", x, "bY=Xa");
        Checks.due("undo() 2", x.undo(), 1);
        Checks.dueEquation("undo() 2", x, "Yb=aX");
        x.eliminate(2);
        Checks.dueEquation("an action after undo()", x, "b=aX");
        Checks.due("undo() 3", x.undo(), 1);
        Checks.dueEquation("undo() 3", x, "Yb=aX");
        Checks.due("undo() 4", x.undo(), 0);
        Checks.dueEquation("undo() 4", x, "aX=Yb");
        Checks.due("undo() 5", x.undo(), -3);
        Checks.dueEquation("undo() 5", x, "aX=Yb");
    }

    private static void rememberedEquations() {
        forgetsTheOldest(false);
        forgetsTheOldest(true);
    }

    /** The equation after n substitutions of X by aX. */
    private static void dueGrown(String after, WordEquations x, int n, boolean onTheRight) {
        String side = "a".repeat(n) + "X";
        Checks.dueEquation(after, x, onTheRight ? "=" + side : side + "=");
    }

    private static void forgetsTheOldest(boolean onTheRight) {
        WordEquations x = Checks.loaded(onTheRight ? "=X" : "X=");
        Checks.type(x, "aX");
        for (int n = 0; n < 11; n++) {
            x.substitute(1);
        }
        for (int n = 0; n < 4; n++) {
            x.cancel();
        }
        Checks.due("undo() after 15 actions", x.undo(), 13);
        for (int left = 12; left >= 0; left--) {
            Checks.due("undo() to " + left, x.undo(), left);
            dueGrown("undo() to " + left, x, Math.min(left + 1, 11), onTheRight);
        }
        Checks.due("undo() of the forgotten one", x.undo(), -3);
        dueGrown("undo() of the forgotten one", x, 1, onTheRight);
        for (int n = 0; n < 14; n++) {
            x.swapSides();
        }
        Checks.due("undo() after 14 actions", x.undo(), 13);
    }

    private static void errorsAreNoActions() {
        WordEquations x = Checks.loaded("XY=a");
        x.eliminate(9);
        Checks.type(x, "=");
        x.substitute(1);
        Checks.type(x, "aaaaaaaaaaaa");
        x.substitute(1);
        x.save(0);
        x.decide();
        x.countSolutions(1);
        x.runScript(1, 100);
        Checks.due("undo() after errors and questions", x.undo(), -3);
        Checks.dueEquation("errors and questions", x, "XY=a");
    }

    private static void actionsKeepTheRest() {
        WordEquations x = Checks.loaded("X=Y;X=1");
        x.save(1);
        x.swapSides();
        x.eliminate(1);
        x.undo();
        Checks.due("the constraints are kept", x.satisfies(0, 0, 0, 0), 0);
        Checks.due("the constraints hold", x.satisfies(0, 1, 1, 0), 1);
        Checks.due("the text is kept", x.clearText(), 7);
        Checks.due("the slot is kept", x.restore(1), 2);
    }
}
