import java.util.List;

/**
 * The boundary cases of ACTIONS AND UNDO and of the promises 9 to 15. Each test stands under the sentence of the
 * document that it holds to.
 */
public final class ActionBoundaryTest {
    public static void main(String[] args) {
        swapEmptyAndFullSides();
        reverseEmptyAndFullSides();
        cancelNothing();
        cancelUntilASideIsEmpty();
        cancelFirstSymbolsBeforeLastOnes();
        cancelFullSides();
        exchangeNoLettersAndOnlyLetters();
        eliminateNoneAndAll();
        eliminateNoVariable();
        substituteByNothing();
        substituteByItself();
        substituteUpToTwelveSymbols();
        substituteManyOccurrences();
        substituteFullOnOneSide();
        substituteUnusedVariableByLongText();
        substituteByNoSymbol();
        substituteOrderOfErrors();
        equalEquationsAreRemembered();
        undoNothing();
        fourteenAreRemembered();
        oldestFallsOutAgainAndAgain();
        errorsAreNoActions();
        undoIsNoAction();
        loadAndRestoreAreNoActions();
        restIsKept();
        Checks.finish();
    }

    /** swapSides: "Returns the number of symbols of the new left side." */
    private static void swapEmptyAndFullSides() {
        WordEquations x = new WordEquations();
        Checks.due("=: swapSides()", x.swapSides(), 0);
        x = Checks.of("abWXYZabWXYZ", "");
        Checks.due("a full left side: swapSides()", x.swapSides(), 0);
        Checks.dueEquation("swapSides()", x, "=abWXYZabWXYZ");
        Checks.due("a full right side: swapSides()", x.swapSides(), 12);
        Checks.dueEquation("swapSides()", x, "abWXYZabWXYZ=");
    }

    /** reverse: "Returns the number of symbols of both sides together." */
    private static void reverseEmptyAndFullSides() {
        WordEquations x = new WordEquations();
        Checks.due("=: reverse()", x.reverse(), 0);
        Checks.dueEquation("reverse()", x, "=");
        x = Checks.loaded("a=");
        Checks.due("a=: reverse()", x.reverse(), 1);
        Checks.dueEquation("reverse()", x, "a=");
        x = Checks.of("abWXYZbbWWYa", "aabbXXYYZZXY");
        Checks.due("full sides: reverse()", x.reverse(), 24);
        Checks.dueEquation("reverse()", x, "aYWWbbZYXWba=YXZZYYXXbbaa");
    }

    private static void dueCancel(String left, String right, int removed, String after) {
        WordEquations x = Checks.of(left, right);
        Checks.due("cancel() of " + left + "=" + right, x.cancel(), removed);
        Checks.dueEquation("cancel() of " + left + "=" + right, x, after);
        Checks.due("undo() of it", x.undo(), 2);
        Checks.dueEquation("undo() of cancel()", x, left + "=" + right);
    }

    /** cancel: "as long as both sides are not empty": with an empty side there is nothing to cancel. */
    private static void cancelNothing() {
        dueCancel("", "", 0, "=");
        dueCancel("a", "", 0, "a=");
        dueCancel("", "a", 0, "=a");
        dueCancel("X", "", 0, "X=");
        dueCancel("", "XX", 0, "=XX");
        dueCancel("ab", "ba", 0, "ab=ba");
        dueCancel("XaY", "YaX", 0, "XaY=YaX");
    }

    /** The same sentence: the side that becomes empty ends it. */
    private static void cancelUntilASideIsEmpty() {
        dueCancel("a", "a", 1, "=");
        dueCancel("aaa", "a", 1, "aa=");
        dueCancel("a", "aaa", 1, "=aa");
        dueCancel("ab", "b", 1, "a=");
        dueCancel("b", "ab", 1, "=a");
        dueCancel("aXb", "ab", 2, "X=");
        dueCancel("ab", "aXb", 2, "=X");
    }

    /** cancel: "the same first symbol ...; after that ... the same last symbol". */
    private static void cancelFirstSymbolsBeforeLastOnes() {
        dueCancel("aXa", "a", 1, "Xa=");
        dueCancel("a", "aXa", 1, "=Xa");
        dueCancel("abXab", "ab", 2, "Xab=");
        dueCancel("aabXb", "aab", 3, "Xb=");
        dueCancel("abaYb", "abZYb", 4, "a=Z");
    }

    /** cancel: "Returns how many symbols were removed from the left side": 12 at most. */
    private static void cancelFullSides() {
        dueCancel("abWXYbabWXYa", "abWXYbabWXYa", 12, "=");
        dueCancel("abWXYbabWXYX", "abWXYbabWXY", 11, "X=");
        dueCancel("abWXYbabWXY", "abWXYbabWXYX", 11, "=X");
        dueCancel("abWXYbabWXYX", "bWXYbabWXYX", 11, "a=");
        dueCancel("abWXYaabWXYX", "abWXYbabWXYX", 11, "a=b");
        dueCancel("aaaaaaaaaaaX", "baaaaaaaaaaX", 11, "a=b");
    }

    /** exchangeLetters: "Returns the number of letters of both sides together." */
    private static void exchangeNoLettersAndOnlyLetters() {
        WordEquations x = new WordEquations();
        Checks.due("=: exchangeLetters()", x.exchangeLetters(), 0);
        x = Checks.of("WXYWXYWXYWXY", "ZZZZZZZZZZZZ");
        Checks.due("variables only: exchangeLetters()", x.exchangeLetters(), 0);
        Checks.dueEquation("exchangeLetters()", x, "WXYWXYWXYWXY=ZZZZZZZZZZZZ");
        dueExchange("a", "", 1, "b=");
        dueExchange("", "b", 1, "=a");
        dueExchange("aaaaaaaaaaaa", "aaaaaaaaaaaa", 24, "bbbbbbbbbbbb=bbbbbbbbbbbb");
        dueExchange("bbbbbbbbbbbb", "bbbbbbbbbbbb", 24, "aaaaaaaaaaaa=aaaaaaaaaaaa");
        dueExchange("aaaaaabbbbbb", "babababababa", 24, "bbbbbbaaaaaa=abababababab");
    }

    private static void dueExchange(String left, String right, int letters, String after) {
        WordEquations x = Checks.of(left, right);
        Checks.due(left + "=" + right + ": exchangeLetters()", x.exchangeLetters(), letters);
        Checks.dueEquation("exchangeLetters()", x, after);
    }

    /** eliminate: "Returns how many occurrences were removed": from none to both sides whole. */
    private static void eliminateNoneAndAll() {
        for (int variable = 0; variable < 4; variable++) {
            String name = "WXYZ".substring(variable, variable + 1);
            WordEquations x = Checks.of(name.repeat(12), name.repeat(12));
            Checks.due("24 of them: eliminate(" + variable + ")", x.eliminate(variable), 24);
            Checks.dueEquation("eliminate(" + variable + ")", x, "=");
            Checks.due("none of them: eliminate(" + variable + ")", x.eliminate(variable), 0);
            x = Checks.of(name + "aaaaaaaaaa" + name, "b");
            Checks.due("at both ends: eliminate(" + variable + ")", x.eliminate(variable), 2);
            Checks.dueEquation("eliminate(" + variable + ")", x, "aaaaaaaaaa=b");
        }
    }

    /** eliminate: "NO_SUCH_INDEX" for what is not a variable; not even letters are removed. */
    private static void eliminateNoVariable() {
        for (int bad : new int[] {-1, -2, -3, 4, 5, Integer.MIN_VALUE, Integer.MAX_VALUE}) {
            WordEquations x = Checks.loaded("abWXYZ=abWXYZ");
            Checks.due("eliminate(" + bad + ")", x.eliminate(bad), WordEquations.NO_SUCH_INDEX);
            Checks.dueEquation("eliminate(" + bad + ")", x, "abWXYZ=abWXYZ");
            Checks.due("undo() after it", x.undo(), WordEquations.NOT_POSSIBLE);
        }
    }

    /** substitute: "An empty text removes the variable." */
    private static void substituteByNothing() {
        for (int variable = 0; variable < 4; variable++) {
            String name = "WXYZ".substring(variable, variable + 1);
            WordEquations x = Checks.of(name.repeat(11) + "a", "b" + name.repeat(11));
            x.clearText();
            Checks.due("substitute(" + variable + ") by nothing", x.substitute(variable), 22);
            Checks.dueEquation("substitute(" + variable + ") by nothing", x, "a=b");
        }
    }

    /** substitute: "The symbols may contain the variable itself", and it is not replaced once more. */
    private static void substituteByItself() {
        WordEquations x = Checks.of("XXXXXXXXXXXX", "XbX");
        Checks.type(x, "X");
        Checks.due("substitute(1) by X", x.substitute(1), 14);
        Checks.dueEquation("substitute(1) by X", x, "XXXXXXXXXXXX=XbX");
        x = Checks.loaded("XX=X");
        Checks.type(x, "XXXXXX");
        Checks.due("substitute(1) by XXXXXX", x.substitute(1), 3);
        Checks.dueEquation("substitute(1) by XXXXXX", x, "XXXXXXXXXXXX=XXXXXX");
        x = Checks.loaded("YX=XY");
        Checks.type(x, "YX");
        Checks.due("substitute(1) by YX", x.substitute(1), 2);
        Checks.dueEquation("substitute(1) by YX", x, "YYX=YXY");
    }

    /** substitute: "FULL if a side would have more than 12 symbols": 12 are no error, whatever else stands there. */
    private static void substituteUpToTwelveSymbols() {
        for (int others = 0; others <= 7; others++) {
            for (int length = 0; length <= 40; length++) {
                String letters = "b".repeat(others);
                WordEquations x = Checks.loaded(letters + "X=");
                Checks.type(x, "a".repeat(length));
                boolean fits = others + length <= 12;
                Checks.due(length + " symbols behind " + others, x.substitute(1), fits ? 1 : WordEquations.FULL);
                Checks.dueEquation("it", x, letters + (fits ? "a".repeat(length) : "X") + "=");
                Checks.due("undo() after it", x.undo(), fits ? 0 : WordEquations.NOT_POSSIBLE);
            }
        }
    }

    /** The same sentence: every occurrence counts. */
    private static void substituteManyOccurrences() {
        for (int count = 1; count <= 12; count++) {
            for (int length = 1; length <= 13; length++) {
                WordEquations x = Checks.of("X".repeat(count), "a");
                Checks.type(x, "Y".repeat(length));
                boolean fits = count * length <= 12;
                Checks.due(length + " symbols for " + count, x.substitute(1), fits ? count : WordEquations.FULL);
                Checks.dueEquation("it", x, (fits ? "Y".repeat(count * length) : "X".repeat(count)) + "=a");
            }
        }
    }

    /** The same sentence: one of the two sides is enough. */
    private static void substituteFullOnOneSide() {
        dueFull("aaaaaaaaaaaX", "X", true);
        dueFull("X", "aaaaaaaaaaaX", true);
        dueFull("aaaaaaaaaaX", "aaaaaaaaaaX", false);
        dueFull("aaaaaaaaaaaX", "aaaaaaaaaaaX", true);
        dueFull("XXXXXX", "XXXXXX", false);
        dueFull("XXXXXXX", "", true);
        dueFull("", "XXXXXXX", true);
        dueFull("X", "aaaaaaaaaaaa", false);
    }

    private static void dueFull(String left, String right, boolean full) {
        WordEquations x = Checks.of(left, right);
        Checks.type(x, "XY");
        int got = x.substitute(1);
        Checks.due(left + "=" + right + " with XY for X is full", got == WordEquations.FULL ? 1 : 0, full ? 1 : 0);
        Checks.dueEquation("it", x, full ? left + "=" + right
                : left.replace("X", "XY") + "=" + right.replace("X", "XY"));
    }

    /** The same sentence: a variable that does not occur makes no side longer, however long the text is. */
    private static void substituteUnusedVariableByLongText() {
        for (int length : new int[] {0, 1, 12, 13, 39, 40}) {
            WordEquations x = Checks.of("aaaaaaaaaaaX", "aaaaaaaaaaaX");
            Checks.type(x, "b".repeat(length));
            Checks.due("substitute(2) by " + length + " symbols", x.substitute(2), 0);
            Checks.dueEquation("it", x, "aaaaaaaaaaaX=aaaaaaaaaaaX");
            Checks.due("it is an action: undo()", x.undo(), 2);
        }
    }

    /** substitute: "NOT_POSSIBLE if the text contains a character that is not a symbol", wherever it stands. */
    private static void substituteByNoSymbol() {
        for (int c = 0; c <= 255; c++) {
            boolean symbol = "abWXYZ".indexOf(c) >= 0;
            for (String text : new String[] {"" + (char) c, (char) c + "a", "a" + (char) c, "aY" + (char) c + "Yb"}) {
                WordEquations x = Checks.loaded("X=b");
                Checks.type(x, text);
                Checks.due("substitute(1) by " + text, x.substitute(1), symbol ? 1 : WordEquations.NOT_POSSIBLE);
                Checks.dueEquation("it", x, symbol ? text + "=b" : "X=b");
            }
        }
        WordEquations x = Checks.loaded("X=b");
        Checks.type(x, "a".repeat(39) + "?");
        Checks.due("substitute(0), unused, by a last character", x.substitute(0), WordEquations.NOT_POSSIBLE);
        Checks.due("undo() after it", x.undo(), WordEquations.NOT_POSSIBLE);
    }

    /** substitute: NO_SUCH_INDEX is listed before NOT_POSSIBLE, and NOT_POSSIBLE before FULL. */
    private static void substituteOrderOfErrors() {
        WordEquations x = Checks.loaded("XXXX=XXXX");
        for (int bad : Checks.outside(0, 3)) {
            Checks.type(x, "aaaa");
            Checks.due("too long: substitute(" + bad + ")", x.substitute(bad), WordEquations.NO_SUCH_INDEX);
            Checks.type(x, "=");
            Checks.due("no symbol: substitute(" + bad + ")", x.substitute(bad), WordEquations.NO_SUCH_INDEX);
            Checks.type(x, "aaa=");
            Checks.due("both: substitute(" + bad + ")", x.substitute(bad), WordEquations.NO_SUCH_INDEX);
        }
        Checks.due("no symbol and too long: substitute(1)", x.substitute(1), WordEquations.NOT_POSSIBLE);
        Checks.type(x, "aaaa");
        Checks.due("too long: substitute(1)", x.substitute(1), WordEquations.FULL);
        Checks.type(x, "aaa");
        Checks.due("not too long: substitute(1)", x.substitute(1), 8);
    }

    /** "Each successful call of one of them is an action, even if the equation stays equal." */
    private static void equalEquationsAreRemembered() {
        WordEquations x = new WordEquations();
        x.swapSides();
        x.reverse();
        x.cancel();
        x.exchangeLetters();
        x.eliminate(0);
        x.substitute(3);
        for (int left = 5; left >= 0; left--) {
            Checks.due("undo() to " + left, x.undo(), left);
            Checks.dueEquation("undo()", x, "=");
        }
        Checks.due("undo() of nothing", x.undo(), WordEquations.NOT_POSSIBLE);
    }

    /** undo: "NOT_POSSIBLE if none is remembered", and then nothing is changed. */
    private static void undoNothing() {
        WordEquations x = new WordEquations();
        Checks.due("new: undo()", x.undo(), WordEquations.NOT_POSSIBLE);
        x = Checks.loaded("aX=b");
        Checks.due("loaded: undo()", x.undo(), WordEquations.NOT_POSSIBLE);
        x.reverse();
        Checks.due("one action: undo()", x.undo(), 0);
        for (int i = 0; i < 3; i++) {
            Checks.due("all taken back: undo()", x.undo(), WordEquations.NOT_POSSIBLE);
            Checks.dueEquation("undo()", x, "aX=b");
        }
        x.reverse();
        Checks.due("one action again: undo()", x.undo(), 0);
        Checks.dueEquation("undo()", x, "aX=b");
    }

    /** The side of X grows to 12 symbols, then the side of Y: 22 actions, and after each another equation. */
    private static WordEquations grow(int actions, boolean swapped) {
        WordEquations x = Checks.loaded(grown(0, swapped));
        for (int i = 0; i < actions; i++) {
            if (i == 0 || i == 11) {
                Checks.type(x, i == 0 ? "aX" : "bY");
            }
            Checks.isTrue("action " + i + " is made", x.substitute(i < 11 ? 1 : 2) == 1);
        }
        return x;
    }

    /** The equation after so many of these actions. */
    private static String grown(int actions, boolean swapped) {
        String sideOfX = "a".repeat(Math.min(actions, 11)) + "X";
        String sideOfY = "b".repeat(Math.max(actions - 11, 0)) + "Y";
        return swapped ? sideOfY + "=" + sideOfX : sideOfX + "=" + sideOfY;
    }

    /**
     * "The object remembers the equation before each of the last 14 actions; when a fifteenth action happens, the
     * oldest remembered equation is forgotten."
     */
    private static void fourteenAreRemembered() {
        for (int actions = 0; actions <= 22; actions++) {
            for (boolean swapped : new boolean[] {false, true}) {
                WordEquations x = grow(actions, swapped);
                Checks.dueEquation(actions + " actions", x, grown(actions, swapped));
                int forgotten = Math.max(actions - 14, 0);
                for (int left = actions - forgotten - 1; left >= 0; left--) {
                    Checks.due(actions + " actions: undo()", x.undo(), left);
                    Checks.dueEquation("undo()", x, grown(forgotten + left, swapped));
                }
                Checks.due(actions + " actions: undo() too often", x.undo(), WordEquations.NOT_POSSIBLE);
                Checks.dueEquation("undo() too often", x, grown(forgotten, swapped));
            }
        }
    }

    /** The same sentence: what has fallen out once falls out again, after undo and after many more actions. */
    private static void oldestFallsOutAgainAndAgain() {
        WordEquations x = Checks.loaded("a=b");
        for (int i = 0; i < 100; i++) {
            x.swapSides();
        }
        Checks.due("100 actions: undo()", x.undo(), 13);
        Checks.dueEquation("undo()", x, "b=a");
        x.exchangeLetters();
        x.exchangeLetters();
        Checks.due("99 and two more: undo()", x.undo(), 13);
        for (int left = 12; left >= 0; left--) {
            Checks.due("then undo()", x.undo(), left);
        }
        Checks.due("then undo() too often", x.undo(), WordEquations.NOT_POSSIBLE);
        for (int i = 1; i <= 16; i++) {
            x.swapSides();
        }
        Checks.due("16 actions behind an empty history: undo()", x.undo(), 13);
    }

    /** "A call that returns an error changes nothing and is not an action", with a full history, too. */
    private static void errorsAreNoActions() {
        WordEquations x = grow(15, false);
        x.eliminate(-1);
        x.eliminate(4);
        x.substitute(-1);
        x.substitute(4);
        Checks.type(x, "?");
        x.substitute(1);
        Checks.type(x, "aaaaaaaaaaaaa");
        x.substitute(1);
        x.restore(0);
        x.restore(2);
        x.load();
        Checks.dueEquation("errors", x, grown(15, false));
        for (int left = 13; left >= 0; left--) {
            Checks.due("undo() after errors", x.undo(), left);
            Checks.dueEquation("undo() after errors", x, grown(left + 1, false));
        }
    }

    /** "undo, load and restore are not actions": undo does not take back an undo. */
    private static void undoIsNoAction() {
        WordEquations x = Checks.loaded("aX=bY");
        x.swapSides();
        x.reverse();
        Checks.due("undo()", x.undo(), 1);
        Checks.dueEquation("undo()", x, "bY=aX");
        Checks.due("undo() goes on", x.undo(), 0);
        Checks.dueEquation("undo() goes on", x, "aX=bY");
        Checks.due("undo() has an end", x.undo(), WordEquations.NOT_POSSIBLE);
    }

    /** The same sentence: load and restore leave nothing to take back, and neither does save. */
    private static void loadAndRestoreAreNoActions() {
        WordEquations x = Checks.loaded("aX=bY");
        Checks.due("after load(): undo()", x.undo(), WordEquations.NOT_POSSIBLE);
        x.save(0);
        Checks.due("after save(0): undo()", x.undo(), WordEquations.NOT_POSSIBLE);
        x.restore(0);
        Checks.due("after restore(0): undo()", x.undo(), WordEquations.NOT_POSSIBLE);
        x.swapSides();
        x.load();
        Checks.due("after load() again: undo()", x.undo(), WordEquations.NOT_POSSIBLE);
    }

    /** "Actions and undo do not change the length constraints, the text and the save slots." */
    private static void restIsKept() {
        List<Twins.Call> actions = List.of(WordEquations::swapSides, WordEquations::reverse, WordEquations::cancel,
                WordEquations::exchangeLetters, x -> x.eliminate(1), x -> x.substitute(1), WordEquations::undo);
        for (int i = 0; i < actions.size(); i++) {
            WordEquations x = Checks.loaded("aXb=aYb;X>1;Y<3");
            x.save(1);
            x.reverse();
            Checks.type(x, "W=Z;W=4");
            x.clearText();
            Checks.type(x, "Xab");
            Checks.isTrue("action " + i + " is made", actions.get(i).on(x) >= 0);
            Checks.due("action " + i + ": the text", x.append('='), 4);
            Checks.due("action " + i + ": restore(0)", x.restore(0), WordEquations.NOT_POSSIBLE);
            Checks.due("action " + i + ": restore(1)", x.restore(1), 6);
            Checks.dueEquation("restore(1)", x, "aXb=aYb");
            Checks.due("action " + i + ": satisfies(0, 3, 3, 0)", x.satisfies(0, 3, 3, 0), 1);
            Checks.due("action " + i + ": satisfies(0, 1, 1, 0)", x.satisfies(0, 1, 1, 0), 0);
            Checks.due("action " + i + ": satisfies(0, 7, 7, 0)", x.satisfies(0, 7, 7, 0), 0);
            Checks.due("action " + i + ": the text is Xab=", x.load(), 0);
            Checks.dueEquation("load()", x, "Xab=");
        }
    }
}
