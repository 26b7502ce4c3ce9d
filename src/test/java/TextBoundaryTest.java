/**
 * The boundary cases of EQUATION TEXT and of the promises 2 to 5. Each test stands under the sentence of the document
 * that it holds to.
 */
public final class TextBoundaryTest {
    /** No equation text is longer. */
    private static final String LONGEST = "abWXYZab=baZYXWba;W<0;X=5;Y>9;Z<1";

    public static void main(String[] args) {
        characterCodes();
        fortyCharacters();
        fortyCharactersAgain();
        badValueOnAFullText();
        clearEmptyAndFull();
        leftSide();
        rightSide();
        constraints();
        everySizeOfText();
        wrongCharactersInEveryPlace();
        noSeparators();
        firstOfSeveralErrors();
        errorStaysWhereItIs();
        everyStartOfTheLongestText();
        beyondTheLongestText();
        fullText();
        emptyText();
        loadOnlyCompleteTexts();
        loadOfNothing();
        loadForgetsFullHistoryAndSlots();
        loadReplacesConstraints();
        loadKeepsTheText();
        Checks.finish();
    }

    private static void dueError(String text, int want) {
        WordEquations x = new WordEquations();
        Checks.type(x, text);
        Checks.due("errorPosition() of " + text, x.errorPosition(), want);
        if (want != WordEquations.NONE) {
            Checks.due("load() of " + text, x.load(), WordEquations.NOT_POSSIBLE);
        }
    }

    /** append: "c: character code, 0 to 255", "BAD_VALUE if c is out of range". */
    private static void characterCodes() {
        for (int c = 0; c <= 255; c++) {
            WordEquations x = new WordEquations();
            Checks.due("append(" + c + ")", x.append(c), 1);
            Checks.due("clearText() after it", x.clearText(), 1);
        }
        for (int bad : new int[] {-1, 256, 256 + 'a', 'a' - 256, 65536 + 'a', Integer.MIN_VALUE, Integer.MAX_VALUE}) {
            WordEquations x = new WordEquations();
            Checks.due("append(" + bad + ")", x.append(bad), WordEquations.BAD_VALUE);
            Checks.due("clearText() after it", x.clearText(), 0);
        }
    }

    /** "The object has a text buffer of at most 40 characters", "FULL if the text already has 40 characters". */
    private static void fortyCharacters() {
        WordEquations x = new WordEquations();
        for (int length = 1; length <= 40; length++) {
            Checks.due("append to " + length, x.append('a'), length);
        }
        for (int c : new int[] {0, 'a', '=', 255}) {
            Checks.due("append(" + c + ") to a full text", x.append(c), WordEquations.FULL);
        }
        Checks.due("a refused append adds nothing: clearText()", x.clearText(), 40);
    }

    /** The same sentences: an emptied text takes 40 characters again, no more and no fewer. */
    private static void fortyCharactersAgain() {
        WordEquations x = new WordEquations();
        for (int round = 0; round < 3; round++) {
            for (int length = 1; length <= 40; length++) {
                Checks.due("round " + round + ": append to " + length, x.append('b'), length);
            }
            Checks.due("round " + round + ": append to a full text", x.append('b'), WordEquations.FULL);
            Checks.due("round " + round + ": clearText()", x.clearText(), 40);
        }
    }

    /** append: BAD_VALUE is listed before FULL. */
    private static void badValueOnAFullText() {
        WordEquations x = new WordEquations();
        Checks.type(x, "a".repeat(40));
        for (int bad : Checks.outside(0, 255)) {
            Checks.due("append(" + bad + ") to a full text", x.append(bad), WordEquations.BAD_VALUE);
        }
        Checks.type(x, "a".repeat(39));
        Checks.due("append(256) to 39 characters", x.append(256), WordEquations.BAD_VALUE);
        Checks.due("append(255) to 39 characters", x.append(255), 40);
    }

    /** clearText: "Returns the previous length of the text." */
    private static void clearEmptyAndFull() {
        for (int length = 0; length <= 40; length++) {
            WordEquations x = Checks.loaded("aX=b;X>1");
            Checks.type(x, "a".repeat(length));
            Checks.due("clearText() of " + length, x.clearText(), length);
            Checks.due("clearText() of nothing", x.clearText(), 0);
            Checks.due("errorPosition() of nothing", x.errorPosition(), 0);
            Checks.dueEquation("clearText()", x, "aX=b");
        }
    }

    /** "An equation text is the left side (0 to 8 symbols), the character =". */
    private static void leftSide() {
        for (int length = 0; length <= 8; length++) {
            dueError("X".repeat(length) + "=", WordEquations.NONE);
            dueError("X".repeat(length), length);
        }
        for (int length = 9; length <= 12; length++) {
            dueError("X".repeat(length) + "=", 8);
            dueError("X".repeat(length), 8);
        }
    }

    /** "the right side (0 to 8 symbols)". */
    private static void rightSide() {
        for (int length = 0; length <= 8; length++) {
            dueError("=" + "b".repeat(length), WordEquations.NONE);
            dueError("aaaaaaaa=" + "b".repeat(length), WordEquations.NONE);
        }
        for (int length = 9; length <= 12; length++) {
            dueError("=" + "b".repeat(length), 9);
            dueError("aaaaaaaa=" + "b".repeat(length) + ";W<1", 17);
        }
    }

    /** "and then 0 to 4 length constraints". */
    private static void constraints() {
        for (int count = 0; count <= 4; count++) {
            dueError("a=b" + ";W<1".repeat(count), WordEquations.NONE);
        }
        for (int count = 5; count <= 9; count++) {
            dueError("a=b" + ";W<1".repeat(count), 19);
        }
        dueError("a=b;W<1;W<1;W<1;W<1;", 19);
    }

    /** The three sentences together: every number of symbols and constraints that is allowed is loaded. */
    private static void everySizeOfText() {
        for (int left = 0; left <= 8; left++) {
            for (int right = 0; right <= 8; right++) {
                for (int count = 0; count <= 4; count++) {
                    String equation = "abWXYZab".substring(0, left) + "=" + "ZYXWbaZY".substring(0, right);
                    WordEquations x = new WordEquations();
                    Checks.type(x, equation + ";X>3;W<8;Z=0;Y<2".substring(0, 4 * count));
                    Checks.due(equation + " and " + count + ": errorPosition()", x.errorPosition(), -9);
                    Checks.due(equation + " and " + count + ": load()", x.load(), count);
                    Checks.dueEquation("load()", x, equation);
                }
            }
        }
    }

    /** What may stand at an index of LONGEST, behind what stands there before it. */
    private static String allowedAt(int index) {
        if (index <= 8) {
            return index < 8 ? "abWXYZ=" : "=";
        }
        if (index < 17) {
            return "abWXYZ;";
        }
        return new String[] {";", "WXYZ", "<=>", "0123456789"}[(index - 17) % 4];
    }

    /**
     * "A symbol is written a, b, W, X, Y or Z. A length constraint is a semicolon, a variable, one of the characters <,
     * = and > and a digit." Every other character is the first error where it stands.
     */
    private static void wrongCharactersInEveryPlace() {
        for (int index = 0; index < LONGEST.length(); index++) {
            for (int c = 0; c <= 255; c++) {
                WordEquations x = new WordEquations();
                Checks.type(x, LONGEST.substring(0, index) + (char) c + LONGEST.substring(index + 1));
                boolean wrong = x.errorPosition() == index;
                boolean allowed = allowedAt(index).indexOf(c) >= 0;
                Checks.isTrue("character " + c + " at " + index + " is judged rightly", wrong != allowed);
                if (wrong) {
                    Checks.due("load() with " + c + " at " + index, x.load(), WordEquations.NOT_POSSIBLE);
                }
            }
        }
    }

    /** "There are no separators." */
    private static void noSeparators() {
        for (String separator : new String[] {" ", ",", "\n", "\t", "" + (char) 0, "" + (char) 160}) {
            for (int index = 0; index <= LONGEST.length(); index++) {
                dueError(LONGEST.substring(0, index) + separator + LONGEST.substring(index), index);
            }
        }
    }

    /** "the index of the first character such that no equation text starts with the text up to and including it". */
    private static void firstOfSeveralErrors() {
        dueError("VVV", 0);
        dueError("aVbV", 1);
        dueError("a=V=V", 2);
        dueError("a=b;c;d", 4);
        dueError("a=b;W?99", 5);
        dueError("a=b;W<??", 6);
        dueError("a=b;W<99", 7);
        dueError("aaaaaaaaaV=", 8);
        dueError("=" + "b".repeat(12) + "?", 9);
    }

    /** The same sentence: what stands behind the first error does not move it. */
    private static void errorStaysWhereItIs() {
        WordEquations x = new WordEquations();
        Checks.type(x, "a=b;a");
        for (int length = 6; length <= 40; length++) {
            Checks.due("append to " + length, x.append(length % 2 == 0 ? '=' : 'a'), length);
            Checks.due("errorPosition() with " + length + " characters", x.errorPosition(), 4);
        }
    }

    /**
     * "If there is no such character but the text is not a complete equation text, the error position is the length of
     * the text", and "NONE if the text is a complete equation text".
     */
    private static void everyStartOfTheLongestText() {
        for (int length = 0; length <= LONGEST.length(); length++) {
            boolean complete = length >= 9 && length <= 17 || length > 17 && (length - 17) % 4 == 0;
            dueError(LONGEST.substring(0, length), complete ? WordEquations.NONE : length);
        }
    }

    /** Behind the last digit of a fourth constraint nothing may stand. */
    private static void beyondTheLongestText() {
        for (int c = 0; c <= 255; c++) {
            dueError(LONGEST + (char) c, 33);
        }
    }

    /** "ignoring the length limit of the buffer": a full text has its error where a shorter one has it. */
    private static void fullText() {
        dueError("a".repeat(40), 8);
        dueError(LONGEST + "aaaaaaa", 33);
        dueError("=".repeat(40), 1);
        dueError("a=b;W<1;W<1;W<1;W<1" + ";W<1".repeat(5) + ";", 19);
        dueError(((char) 255 + "").repeat(40), 0);
    }

    /** The error position of an empty text is its length, 0. */
    private static void emptyText() {
        dueError("", 0);
        WordEquations x = Checks.loaded("a=b");
        x.clearText();
        Checks.due("errorPosition() of an emptied text", x.errorPosition(), 0);
        Checks.due("load() of an emptied text", x.load(), WordEquations.NOT_POSSIBLE);
        Checks.dueEquation("load() of an emptied text", x, "a=b");
    }

    /** load: "NOT_POSSIBLE if the text is not a complete equation text", and then nothing is changed. */
    private static void loadOnlyCompleteTexts() {
        for (int length = 0; length <= LONGEST.length(); length++) {
            WordEquations x = Checks.loaded("XY=YX;X>1;Y=2");
            x.save(1);
            x.eliminate(1);
            Checks.type(x, LONGEST.substring(0, length));
            if (x.errorPosition() == WordEquations.NONE) {
                Checks.isTrue("load() of " + length + " characters", x.load() >= 0);
                continue;
            }
            Checks.due("load() of " + length + " characters", x.load(), WordEquations.NOT_POSSIBLE);
            Checks.dueEquation("a refused load()", x, "Y=Y");
            Checks.due("a refused load(): satisfies(0, 3, 3, 0)", x.satisfies(0, 3, 3, 0), 1);
            Checks.due("a refused load(): satisfies(0, 1, 3, 0)", x.satisfies(0, 1, 3, 0), 0);
            Checks.due("a refused load(): satisfies(0, 3, 1, 0)", x.satisfies(0, 3, 1, 0), 0);
            Checks.due("a refused load(): undo()", x.undo(), 0);
            Checks.due("a refused load(): restore(0)", x.restore(0), WordEquations.NOT_POSSIBLE);
            Checks.due("a refused load(): restore(1)", x.restore(1), 4);
            Checks.due("a refused load(): clearText()", x.clearText(), length);
        }
    }

    /** load: the shortest text of all has two empty sides and no constraint. */
    private static void loadOfNothing() {
        WordEquations x = Checks.loaded("abWXYZab=baZYXWba;W<0;X=5;Y>9;Z<1");
        Checks.type(x, "=");
        Checks.due("load() of =", x.load(), 0);
        Checks.dueEquation("load() of =", x, "=");
        Checks.due("load() of =: satisfies(62, 62, 62, 62)", x.satisfies(62, 62, 62, 62), 1);
    }

    /** load: "Forgets all remembered equations and empties both save slots." */
    private static void loadForgetsFullHistoryAndSlots() {
        for (int actions = 0; actions <= 16; actions++) {
            WordEquations x = Checks.loaded("aX=b");
            x.save(0);
            x.save(1);
            for (int i = 0; i < actions; i++) {
                x.swapSides();
            }
            Checks.due("load() after " + actions + " actions", x.load(), 0);
            Checks.due("then undo()", x.undo(), WordEquations.NOT_POSSIBLE);
            Checks.due("then restore(0)", x.restore(0), WordEquations.NOT_POSSIBLE);
            Checks.due("then restore(1)", x.restore(1), WordEquations.NOT_POSSIBLE);
            Checks.dueEquation("load()", x, "aX=b");
        }
    }

    /** load: "Replaces the equation and the length constraints by those of the text": from four to none and back. */
    private static void loadReplacesConstraints() {
        WordEquations x = new WordEquations();
        int[] counts = {4, 0, 1, 4, 3, 2, 0};
        for (int count : counts) {
            Checks.type(x, "=" + ";W>0;X>0;Y>0;Z>0".substring(0, 4 * count));
            Checks.due("load() of " + count, x.load(), count);
            for (int variable = 0; variable < 4; variable++) {
                int got = x.satisfies(variable == 0 ? 0 : 1, variable == 1 ? 0 : 1, variable == 2 ? 0 : 1,
                        variable == 3 ? 0 : 1);
                Checks.due(count + " constraints, variable " + variable + " is empty", got, variable < count ? 0 : 1);
            }
        }
    }

    /** load: "Keeps the text." */
    private static void loadKeepsTheText() {
        WordEquations x = new WordEquations();
        Checks.type(x, LONGEST);
        for (int i = 0; i < 3; i++) {
            Checks.due("load() of the longest text", x.load(), 4);
            Checks.dueEquation("load()", x, "abWXYZab=baZYXWba");
        }
        Checks.due("append behind the kept text", x.append('a'), 34);
        Checks.due("load() of it", x.load(), WordEquations.NOT_POSSIBLE);
    }
}
