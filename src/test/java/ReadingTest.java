/** Promises 6 to 8: sideLength, symbolAt, occurrences. */
public final class ReadingTest {
    public static void main(String[] args) {
        WordEquations x = Checks.loaded("abWXYZXX=bY");
        sideLength(x);
        symbolAt(x);
        occurrences(x);
        readingChangesNothing(x);
        longestSides();
        Checks.finish();
    }

    private static void sideLength(WordEquations x) {
        Checks.due("sideLength(0)", x.sideLength(0), 8);
        Checks.due("sideLength(1)", x.sideLength(1), 2);
        Checks.due("sideLength(-1)", x.sideLength(-1), -1);
        Checks.due("sideLength(2)", x.sideLength(2), -1);
        Checks.due("sideLength(MAX)", x.sideLength(Integer.MAX_VALUE), -1);
    }

    private static void symbolAt(WordEquations x) {
        String left = "abWXYZXX";
        for (int i = 0; i < left.length(); i++) {
            Checks.due("symbolAt(0, " + i + ")", x.symbolAt(0, i), left.charAt(i));
        }
        Checks.due("symbolAt(1, 0)", x.symbolAt(1, 0), 98);
        Checks.due("symbolAt(1, 1)", x.symbolAt(1, 1), 89);
        Checks.due("symbolAt(1, 2)", x.symbolAt(1, 2), -1);
        Checks.due("symbolAt(0, 8)", x.symbolAt(0, 8), -1);
        Checks.due("symbolAt(0, -1)", x.symbolAt(0, -1), -1);
        Checks.due("symbolAt(0, MIN)", x.symbolAt(0, Integer.MIN_VALUE), -1);
        Checks.due("symbolAt(0, MAX)", x.symbolAt(0, Integer.MAX_VALUE), -1);
        Checks.due("symbolAt(2, 0)", x.symbolAt(2, 0), -1);
        Checks.due("symbolAt(-1, 0)", x.symbolAt(-1, 0), -1);
    }

    private static void occurrences(WordEquations x) {
        int[][] want = {{1, 3, 1, 1}, {0, 0, 1, 0}};
        for (int side = 0; side < 2; side++) {
            for (int variable = 0; variable < 4; variable++) {
                Checks.due("occurrences(" + side + ", " + variable + ")", x.occurrences(side, variable),
                        want[side][variable]);
            }
        }
        Checks.due("occurrences(0, -1)", x.occurrences(0, -1), -1);
        Checks.due("occurrences(0, 4)", x.occurrences(0, 4), -1);
        Checks.due("occurrences(2, 0)", x.occurrences(2, 0), -1);
        Checks.due("occurrences(-1, 3)", x.occurrences(-1, 3), -1);
        Checks.due("occurrences(0, -2)", x.occurrences(0, -2), -1);
        Checks.due("occurrences(0, -3)", x.occurrences(0, -3), -1);
    }

    private static void readingChangesNothing(WordEquations x) {
        Checks.dueEquation("reading", x, "abWXYZXX=bY");
        Checks.due("reading is no action: undo()", x.undo(), -3);
    }

    private static void longestSides() {
        WordEquations x = Checks.loaded("XXXX=YYYYYY");
        Checks.type(x, "Zab");
        x.substitute(1);
        Checks.type(x, "WY");
        x.substitute(2);
        Checks.dueEquation("substitutions", x, "ZabZabZabZab=WYWYWYWYWYWY");
        Checks.due("sideLength(0) of the longest side", x.sideLength(0), 12);
        Checks.due("symbolAt(0, 11) of the longest side", x.symbolAt(0, 11), 'b');
        Checks.due("symbolAt(1, 11) of the longest side", x.symbolAt(1, 11), 'Y');
        Checks.due("symbolAt(1, 12) of the longest side", x.symbolAt(1, 12), -1);
        Checks.due("occurrences(1, 0) of the longest side", x.occurrences(1, 0), 6);
    }
}
