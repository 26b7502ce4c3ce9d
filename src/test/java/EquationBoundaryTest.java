/**
 * The boundary cases of EQUATIONS and of the promises 1 and 6 to 8. Each test stands under the sentence of the document
 * that it holds to.
 */
public final class EquationBoundaryTest {
    private static final String NAMES = "WXYZ";

    public static void main(String[] args) {
        sidesOfNoneToTwelveSymbols();
        sideOfThirteenSymbols();
        numbersOfVariables();
        usedOnOneSideOnly();
        usedInTheLastPlace();
        usedNoMore();
        newObject();
        constraintNumbers();
        relationsAroundTheNumber();
        everyPlaceOfFourConstraints();
        fourConstraintsOnOneVariable();
        fiveConstraints();
        constraintOnAnUnusedVariable();
        sides();
        indicesOfASide();
        indicesOfAnEmptySide();
        occurrencesFromNoneToTwelve();
        Checks.finish();
    }

    /** "An equation has a left side (side 0) and a right side (side 1), each a sequence of 0 to 12 symbols." */
    private static void sidesOfNoneToTwelveSymbols() {
        for (int left = 0; left <= 12; left++) {
            for (int right = 0; right <= 12; right++) {
                String equation = "a".repeat(left) + "=" + "b".repeat(right);
                WordEquations x = Checks.of("a".repeat(left), "b".repeat(right));
                Checks.due(equation + ": sideLength(0)", x.sideLength(0), left);
                Checks.due(equation + ": sideLength(1)", x.sideLength(1), right);
            }
        }
    }

    /** The same sentence: 13 symbols are too many, on either side. */
    private static void sideOfThirteenSymbols() {
        WordEquations x = Checks.of("aaaaaaaaaaaX", "bbbbbbbbbbbY");
        Checks.type(x, "ab");
        Checks.due("13 symbols on the left: substitute(1)", x.substitute(1), WordEquations.FULL);
        Checks.due("13 symbols on the right: substitute(2)", x.substitute(2), WordEquations.FULL);
        Checks.dueEquation("two refused substitutions", x, "aaaaaaaaaaaX=bbbbbbbbbbbY");
    }

    /** "The variables are W, X, Y and Z; as arguments of methods they have the numbers 0, 1, 2 and 3." */
    private static void numbersOfVariables() {
        for (int variable = 0; variable < 4; variable++) {
            String name = NAMES.substring(variable, variable + 1);
            for (int asked = 0; asked < 4; asked++) {
                int there = asked == variable ? 1 : 0;
                String call = name + "=b, variable " + asked + ": ";
                Checks.due(call + "occurrences", Checks.loaded(name + "=b").occurrences(0, asked), there);
                Checks.due(call + "eliminate", Checks.loaded(name + "=b").eliminate(asked), there);
                Checks.due(call + "firstSolution", Checks.loaded(name + "=b").firstSolution(1, asked), 2 * there);
                Checks.due(call + "witnessLength", Checks.loaded(name + "=b").witnessLength(asked), there);
                Checks.due(call + "witnessLetter", Checks.loaded(name + "=b").witnessLetter(asked, 0),
                        there == 1 ? 'b' : WordEquations.NONE);
                WordEquations x = Checks.loaded(name + "=b");
                Checks.type(x, "a");
                Checks.due(call + "substitute", x.substitute(asked), there);
            }
        }
    }

    /** "A variable is used if it occurs in the equation": the left side alone, or the right side alone, is enough. */
    private static void usedOnOneSideOnly() {
        for (int variable = 0; variable < 4; variable++) {
            for (String text : new String[] {NAMES.charAt(variable) + "=bb", "bb=" + NAMES.charAt(variable)}) {
                WordEquations x = Checks.loaded(text);
                Checks.due(text + ": countSolutions(2)", x.countSolutions(2), 1);
                Checks.due(text + ": countLengths(2)", x.countLengths(2), 1);
                Checks.due(text + ": firstSolution(2, " + variable + ")", x.firstSolution(2, variable), 6);
            }
        }
    }

    /** The same sentence: the twelfth symbol of a side counts, too. */
    private static void usedInTheLastPlace() {
        for (int variable = 0; variable < 4; variable++) {
            String longest = "aaaaaaaaaaa" + NAMES.charAt(variable);
            for (int side = 0; side < 2; side++) {
                WordEquations x = side == 0 ? Checks.of(longest, "aaaaaaaaaaab") : Checks.of("aaaaaaaaaaab", longest);
                Checks.due(longest + " on side " + side + ": occurrences", x.occurrences(side, variable), 1);
                Checks.due(longest + " on side " + side + ": countSolutions(1)", x.countSolutions(1), 1);
                Checks.due(longest + " on side " + side + ": firstSolution", x.firstSolution(1, variable), 2);
                Checks.due(longest + " on side " + side + ": countLengths(1)", x.countLengths(1), 1);
            }
        }
    }

    /** The same sentence: a variable that has been removed is not used any more. */
    private static void usedNoMore() {
        for (int variable = 0; variable < 4; variable++) {
            String name = NAMES.substring(variable, variable + 1);
            WordEquations x = Checks.loaded(name + "=" + name);
            Checks.due(name + " is used: countSolutions(3)", x.countSolutions(3), 15);
            Checks.due(name + " is used: countLengths(9)", x.countLengths(9), 10);
            x.eliminate(variable);
            Checks.due(name + " is removed: countSolutions(3)", x.countSolutions(3), 1);
            Checks.due(name + " is removed: countLengths(9)", x.countLengths(9), 1);
            x.undo();
            Checks.due(name + " is there again: countSolutions(3)", x.countSolutions(3), 15);
        }
    }

    /** "A new object has the equation with two empty sides and no length constraints." */
    private static void newObject() {
        WordEquations x = new WordEquations();
        Checks.dueEquation("new WordEquations()", x, "=");
        for (int number = 0; number <= 62; number++) {
            Checks.due("new: no constraint on a word", x.satisfies(number, 62 - number, number, 62 - number), 1);
        }
        for (int bound = 0; bound <= 3; bound++) {
            Checks.due("new: countSolutions(" + bound + ")", x.countSolutions(bound), 1);
            Checks.due("new: leastTotalLength(" + bound + ")", x.leastTotalLength(bound), 0);
        }
        for (int bound = 0; bound <= 9; bound++) {
            Checks.due("new: countLengths(" + bound + ")", x.countLengths(bound), 1);
        }
        Checks.due("new: undo()", x.undo(), WordEquations.NOT_POSSIBLE);
        Checks.due("new: restore(0)", x.restore(0), WordEquations.NOT_POSSIBLE);
        Checks.due("new: restore(1)", x.restore(1), WordEquations.NOT_POSSIBLE);
        Checks.due("new: clearText()", x.clearText(), 0);
    }

    /** "A length constraint consists of a variable, a relation (less, equal or greater) and a number from 0 to 9." */
    private static void constraintNumbers() {
        for (int number = 0; number <= 9; number++) {
            Checks.due("X=X;X<" + number, Checks.loaded("X=X;X<" + number).countLengths(9), number);
            Checks.due("X=X;X=" + number, Checks.loaded("X=X;X=" + number).countLengths(9), 1);
            Checks.due("X=X;X>" + number, Checks.loaded("X=X;X>" + number).countLengths(9), 9 - number);
        }
        Checks.due("nothing is less than 0", Checks.loaded("X=X;X<0").countSolutions(3), 0);
        Checks.due("only the empty word is 0", Checks.loaded("X=X;X=0").countSolutions(3), 1);
        Checks.due("all but the empty word are more than 0", Checks.loaded("X=X;X>0").countSolutions(3), 14);
        Checks.due("all words of a solution are less than 9", Checks.loaded("X=X;X<9").countSolutions(3), 15);
        Checks.due("none of them is 9", Checks.loaded("X=X;X=9").countSolutions(3), 0);
        Checks.due("none of them is more than 9", Checks.loaded("X=X;X>9").countSolutions(3), 0);
    }

    /** "An assignment satisfies it if the length of the word of the variable is in that relation to the number." */
    private static void relationsAroundTheNumber() {
        for (int variable = 0; variable < 4; variable++) {
            for (int number = 0; number <= 6; number++) {
                for (int length = 0; length <= 5; length++) {
                    String name = "=;" + NAMES.charAt(variable);
                    dueHolds(name + "<" + number, variable, length, length < number);
                    dueHolds(name + "=" + number, variable, length, length == number);
                    dueHolds(name + ">" + number, variable, length, length > number);
                }
            }
        }
    }

    /** The first and the last word of a length. */
    private static void dueHolds(String text, int variable, int length, boolean holds) {
        for (int number : new int[] {(1 << length) - 1, (2 << length) - 2}) {
            int got = satisfiesWith(Checks.loaded(text), variable, number);
            Checks.due(text + " with the word " + number, got, holds ? 1 : 0);
        }
    }

    private static int satisfiesWith(WordEquations x, int variable, int number) {
        return x.satisfies(variable == 0 ? number : 0, variable == 1 ? number : 0, variable == 2 ? number : 0,
                variable == 3 ? number : 0);
    }

    /** "There are at most 4 length constraints": each of four is heeded. */
    private static void everyPlaceOfFourConstraints() {
        for (int place = 0; place < 4; place++) {
            StringBuilder text = new StringBuilder("=");
            for (int i = 0; i < 4; i++) {
                text.append(i == place ? ";Z=1" : ";W<9");
            }
            WordEquations x = Checks.loaded(text.toString());
            Checks.due(text + ": satisfies(0, 0, 0, 0)", x.satisfies(0, 0, 0, 0), 0);
            Checks.due(text + ": satisfies(0, 0, 0, 1)", x.satisfies(0, 0, 0, 1), 1);
            Checks.due(text + ": satisfies(0, 0, 0, 3)", x.satisfies(0, 0, 0, 3), 0);
        }
    }

    /** "A solution is an assignment that satisfies the equation and all length constraints". */
    private static void fourConstraintsOnOneVariable() {
        WordEquations x = Checks.loaded("X=X;X>0;X>1;X<4;X<3");
        Checks.due("four on X: countLengths(9)", x.countLengths(9), 1);
        Checks.due("four on X: countSolutions(3)", x.countSolutions(3), 4);
        Checks.due("four on X: countSolutions(1)", x.countSolutions(1), 0);
        Checks.due("four on X: firstSolution(3, 1)", x.firstSolution(3, 1), 3);
        x = Checks.loaded("X=X;X=2;X=2;X=2;X=3");
        Checks.due("2 and 3 at once: countLengths(9)", x.countLengths(9), 0);
    }

    /** "There are at most 4 length constraints": a fifth is refused. */
    private static void fiveConstraints() {
        WordEquations x = Checks.loaded("X=X;X=1");
        Checks.type(x, "=;X<9;X<9;X<9;X<9;X<9");
        Checks.due("five constraints: errorPosition()", x.errorPosition(), 17);
        Checks.due("five constraints: load()", x.load(), WordEquations.NOT_POSSIBLE);
        Checks.dueEquation("a refused load()", x, "X=X");
        Checks.due("a refused load(): countSolutions(3)", x.countSolutions(3), 2);
    }

    /** "(So a length constraint on a variable that is not used speaks about the empty word.)" */
    private static void constraintOnAnUnusedVariable() {
        for (int variable = 0; variable < 4; variable++) {
            String unused = ";" + NAMES.charAt(variable);
            dueForTheEmptyWord("=" + unused + "<0", false);
            dueForTheEmptyWord("=" + unused + "<1", true);
            dueForTheEmptyWord("=" + unused + "=0", true);
            dueForTheEmptyWord("=" + unused + "=1", false);
            dueForTheEmptyWord("=" + unused + ">0", false);
        }
    }

    private static void dueForTheEmptyWord(String text, boolean holds) {
        WordEquations x = Checks.loaded(text);
        for (int bound = 0; bound <= 3; bound++) {
            Checks.due(text + ": countSolutions(" + bound + ")", x.countSolutions(bound), holds ? 1 : 0);
            Checks.due(text + ": countLengths(" + 3 * bound + ")", x.countLengths(3 * bound), holds ? 1 : 0);
            Checks.due(text + ": leastTotalLength(" + bound + ")", x.leastTotalLength(bound), holds ? 0 : -9);
            Checks.due(text + ": firstSolution(" + bound + ", 0)", x.firstSolution(bound, 0), holds ? 0 : -9);
        }
    }

    /** "NO_SUCH_INDEX without a condition means that an argument is not a side (0 or 1, for side)". */
    private static void sides() {
        WordEquations x = Checks.loaded("aW=bbW");
        Checks.due("sideLength(0)", x.sideLength(0), 2);
        Checks.due("sideLength(1)", x.sideLength(1), 3);
        for (int bad : Checks.outside(0, 1)) {
            Checks.due("sideLength(" + bad + ")", x.sideLength(bad), WordEquations.NO_SUCH_INDEX);
            Checks.due("symbolAt(" + bad + ", 0)", x.symbolAt(bad, 0), WordEquations.NO_SUCH_INDEX);
            Checks.due("occurrences(" + bad + ", 0)", x.occurrences(bad, 0), WordEquations.NO_SUCH_INDEX);
        }
    }

    /** "... or not an index of the sequence that is asked (for i)". */
    private static void indicesOfASide() {
        for (int length = 1; length <= 12; length++) {
            String side = "abWXYZZYXWba".substring(0, length);
            for (int which = 0; which < 2; which++) {
                WordEquations x = which == 0 ? Checks.of(side, "aaaaaaaaaaaa") : Checks.of("aaaaaaaaaaaa", side);
                String call = side + " on side " + which + ": symbolAt ";
                Checks.due(call + 0, x.symbolAt(which, 0), side.charAt(0));
                Checks.due(call + (length - 1), x.symbolAt(which, length - 1), side.charAt(length - 1));
                for (int bad : Checks.outside(0, length - 1)) {
                    Checks.due(call + bad, x.symbolAt(which, bad), WordEquations.NO_SUCH_INDEX);
                }
            }
        }
    }

    /** The same sentence: an empty side has no index, even if the other side has. */
    private static void indicesOfAnEmptySide() {
        WordEquations x = Checks.loaded("=ab");
        for (int bad : new int[] {-1, 0, 1, 12}) {
            Checks.due("=ab: symbolAt(0, " + bad + ")", x.symbolAt(0, bad), WordEquations.NO_SUCH_INDEX);
        }
        x = Checks.loaded("ab=");
        for (int bad : new int[] {-1, 0, 1, 12}) {
            Checks.due("ab=: symbolAt(1, " + bad + ")", x.symbolAt(1, bad), WordEquations.NO_SUCH_INDEX);
        }
    }

    /** occurrences: "Returns how often the variable occurs on the side; NO_SUCH_INDEX." */
    private static void occurrencesFromNoneToTwelve() {
        for (int variable = 0; variable < 4; variable++) {
            for (int count = 0; count <= 12; count++) {
                WordEquations x = Checks.of(NAMES.substring(variable, variable + 1).repeat(count), "ab");
                Checks.due(Checks.shown(x) + ": occurrences(0, " + variable + ")", x.occurrences(0, variable), count);
                Checks.due(Checks.shown(x) + ": occurrences(1, " + variable + ")", x.occurrences(1, variable), 0);
            }
        }
        WordEquations x = Checks.loaded("WXYZ=WXYZ");
        for (int bad : Checks.outside(0, 3)) {
            Checks.due("occurrences(0, " + bad + ")", x.occurrences(0, bad), WordEquations.NO_SUCH_INDEX);
            Checks.due("occurrences(2, " + bad + ")", x.occurrences(2, bad), WordEquations.NO_SUCH_INDEX);
        }
    }
}
