/**
 * The boundary cases of ORDER OF WORDS, BOUNDED SOLUTIONS and COUNTING LETTERS, and of the promises 16 to 21. Each test
 * stands under the sentence of the document that it holds to.
 */
public final class SolutionBoundaryTest {
    private static final String NAMES = "WXYZ";

    public static void main(String[] args) {
        firstAndLastWordOfALength();
        rangeOfWordNumbers();
        emptyWords();
        longestSidesOfWords();
        unusedVariablesOfSatisfies();
        rangeOfBounds();
        wordsOfExactlyTheBound();
        fewestAndMostSolutions();
        constraintsBeyondTheBound();
        firstSolutionOrderOfErrors();
        firstSolutionIsNone();
        firstSolutionOrderOfVariables();
        firstSolutionOrderOfWords();
        smallestAndLargestFirstWord();
        leastAndMostTotalLength();
        leastIsNotTheFirst();
        lengthsOfExactlyTheBound();
        fewestAndMostLengths();
        rangeOfLengthBounds();
        eachLetterCountsOne();
        countingVariables();
        countingLetters();
        countingOnEmptyAndFullSides();
        Checks.finish();
    }

    /** "0 is the empty word, 1 is a, 2 is b, 3 is aa, 4 is ab, 5 is ba, 6 is bb, 7 is aaa, and so on." */
    private static void firstAndLastWordOfALength() {
        String[] words = {"", "a", "b", "aa", "ab", "ba", "bb", "aaa"};
        for (int number = 0; number < words.length; number++) {
            dueNumber(words[number], number);
        }
        for (int length = 0; length <= 5; length++) {
            dueNumber("a".repeat(length), (1 << length) - 1);
            dueNumber("b".repeat(length), (2 << length) - 2);
        }
        dueNumber("aaaab", 32);
        dueNumber("abbbb", 46);
        dueNumber("baaaa", 47);
        dueNumber("bbbba", 61);
    }

    private static void dueNumber(String word, int number) {
        for (int variable = 0; variable < 4; variable++) {
            WordEquations x = Checks.loaded(NAMES.charAt(variable) + "=" + word);
            for (int asked = Math.max(0, number - 1); asked <= Math.min(62, number + 1); asked++) {
                int got = x.satisfies(variable == 0 ? asked : 0, variable == 1 ? asked : 0, variable == 2 ? asked : 0,
                        variable == 3 ? asked : 0);
                Checks.due(word + " has the number " + asked, got, asked == number ? 1 : 0);
            }
            if (word.length() <= 3) {
                Checks.due(word + ": firstSolution", x.firstSolution(3, variable), number);
            }
        }
    }

    /** satisfies: "number of the word of W, 0 to 62", and so on; "BAD_VALUE if a number is out of range". */
    private static void rangeOfWordNumbers() {
        WordEquations x = Checks.loaded("WXYZ=WXYZ");
        Checks.due("satisfies(0, 0, 0, 0)", x.satisfies(0, 0, 0, 0), 1);
        Checks.due("satisfies(62, 62, 62, 62)", x.satisfies(62, 62, 62, 62), 1);
        Checks.due("satisfies(62, 0, 62, 0)", x.satisfies(62, 0, 62, 0), 1);
        for (int bad : Checks.outside(0, 62)) {
            for (int good : new int[] {0, 62}) {
                Checks.due("W is " + bad, x.satisfies(bad, good, good, good), WordEquations.BAD_VALUE);
                Checks.due("X is " + bad, x.satisfies(good, bad, good, good), WordEquations.BAD_VALUE);
                Checks.due("Y is " + bad, x.satisfies(good, good, bad, good), WordEquations.BAD_VALUE);
                Checks.due("Z is " + bad, x.satisfies(good, good, good, bad), WordEquations.BAD_VALUE);
            }
            Checks.due("all are " + bad, x.satisfies(bad, bad, bad, bad), WordEquations.BAD_VALUE);
        }
        x = Checks.loaded("a=b;W>0");
        Checks.due("nothing is satisfied, W is 63", x.satisfies(63, 0, 0, 0), WordEquations.BAD_VALUE);
        Checks.due("nothing is satisfied, an unused Z is -1", x.satisfies(0, 0, 0, -1), WordEquations.BAD_VALUE);
    }

    /** "A word is a sequence of letters; it may be empty." */
    private static void emptyWords() {
        WordEquations x = Checks.of("WXYZWXYZWXYZ", "");
        Checks.due("all are empty: satisfies(0, 0, 0, 0)", x.satisfies(0, 0, 0, 0), 1);
        Checks.due("Z is not: satisfies(0, 0, 0, 1)", x.satisfies(0, 0, 0, 1), 0);
        Checks.due("all are empty: countSolutions(3)", x.countSolutions(3), 1);
        for (int variable = 0; variable < 4; variable++) {
            Checks.due("all are empty: firstSolution", x.firstSolution(3, variable), 0);
            Checks.due("all are empty: witnessLength", x.witnessLength(variable), 0);
            Checks.due("all are empty: witnessLetter", x.witnessLetter(variable, 0), WordEquations.NONE);
        }
    }

    /** "It satisfies the equation if both sides become the same word": 12 variables with five letters each. */
    private static void longestSidesOfWords() {
        WordEquations x = Checks.of("WWWWWWWWWWWW", "XXXXXXXXXXXX");
        for (int number : new int[] {31, 46, 47, 62}) {
            Checks.due("W and X are " + number, x.satisfies(number, number, 0, 0), 1);
            for (int other : new int[] {0, 15, 30, 32, 61}) {
                Checks.due("W is " + number + ", X is " + other, x.satisfies(number, other, 0, 0), 0);
                Checks.due("X is " + number + ", W is " + other, x.satisfies(other, number, 0, 0), 0);
            }
        }
        x = Checks.of("WWWWWWWWWWWX", "WWWWWWWWWWWY");
        Checks.due("the sixtieth letter differs", x.satisfies(62, 62, 61, 0), 0);
        Checks.due("60 and 59 letters", x.satisfies(62, 62, 30, 0), 0);
        Checks.due("60 letters", x.satisfies(62, 61, 61, 0), 1);
        x = Checks.of("XWWWWWWWWWWW", "YWWWWWWWWWWW");
        Checks.due("the first of 60 letters differs", x.satisfies(31, 47, 31, 0), 0);
        Checks.due("the first of 60 letters is the same", x.satisfies(31, 47, 47, 0), 1);
        Checks.due("60 letters a and 59", x.satisfies(31, 31, 15, 0), 0);
    }

    /** "Variables that are not used may have any word; the length constraints hold for their words, too." */
    private static void unusedVariablesOfSatisfies() {
        WordEquations x = Checks.loaded("X=a");
        for (int number = 0; number <= 62; number++) {
            Checks.due("any word of W, Y and Z", x.satisfies(number, 1, 62 - number, number), 1);
        }
        x = Checks.loaded("X=a;Y>4;Z<1;W=5");
        Checks.due("the words suit the constraints", x.satisfies(31, 1, 62, 0), 1);
        Checks.due("Y is too short", x.satisfies(31, 1, 30, 0), 0);
        Checks.due("Z is too long", x.satisfies(31, 1, 31, 1), 0);
        Checks.due("W is not five letters long", x.satisfies(30, 1, 31, 0), 0);
        Checks.due("but the equation counts", x.satisfies(31, 2, 62, 0), 0);
        Checks.due("a solution has empty words there: countSolutions(3)", x.countSolutions(3), 0);
    }

    /** "bound: 0 to 3", "BAD_VALUE if bound is out of range", for three methods. */
    private static void rangeOfBounds() {
        WordEquations x = Checks.loaded("X=X");
        int[] words = {1, 3, 7, 15};
        for (int bound = 0; bound <= 3; bound++) {
            Checks.due("countSolutions(" + bound + ")", x.countSolutions(bound), words[bound]);
            Checks.due("firstSolution(" + bound + ", 1)", x.firstSolution(bound, 1), 0);
            Checks.due("leastTotalLength(" + bound + ")", x.leastTotalLength(bound), 0);
        }
        for (int bad : Checks.outside(0, 3)) {
            Checks.due("countSolutions(" + bad + ")", x.countSolutions(bad), WordEquations.BAD_VALUE);
            Checks.due("firstSolution(" + bad + ", 1)", x.firstSolution(bad, 1), WordEquations.BAD_VALUE);
            Checks.due("leastTotalLength(" + bad + ")", x.leastTotalLength(bad), WordEquations.BAD_VALUE);
        }
        x = Checks.loaded("a=b");
        for (int bad : Checks.outside(0, 3)) {
            Checks.due("a=b: countSolutions(" + bad + ")", x.countSolutions(bad), WordEquations.BAD_VALUE);
            Checks.due("a=b: leastTotalLength(" + bad + ")", x.leastTotalLength(bad), WordEquations.BAD_VALUE);
        }
    }

    /** "The solutions with bound B are the solutions in which each word has at most B letters." */
    private static void wordsOfExactlyTheBound() {
        for (int variable = 0; variable < 4; variable++) {
            for (int length = 0; length <= 4; length++) {
                WordEquations x = Checks.loaded(NAMES.charAt(variable) + "=" + "b".repeat(length));
                for (int bound = 0; bound <= 3; bound++) {
                    boolean there = length <= bound;
                    String call = length + " letters with bound " + bound + ": ";
                    Checks.due(call + "countSolutions", x.countSolutions(bound), there ? 1 : 0);
                    Checks.due(call + "leastTotalLength", x.leastTotalLength(bound), there ? length : -9);
                    Checks.due(call + "firstSolution", x.firstSolution(bound, variable),
                            there ? (2 << length) - 2 : -9);
                }
            }
        }
    }

    /** countSolutions: "Returns the number of solutions with this bound", from none to all assignments. */
    private static void fewestAndMostSolutions() {
        WordEquations x = Checks.loaded("WXYZ=WXYZ");
        Checks.due("all: countSolutions(0)", x.countSolutions(0), 1);
        Checks.due("all: countSolutions(1)", x.countSolutions(1), 81);
        Checks.due("all: countSolutions(2)", x.countSolutions(2), 2401);
        Checks.due("all: countSolutions(3)", x.countSolutions(3), 50625);
        x = Checks.loaded("WXYZWXYZ=WXYZWXYb");
        Checks.due("Z is b, the others are free: countSolutions(3)", x.countSolutions(3), 3375);
        x = Checks.loaded("XWYZa=XWYZb");
        for (int bound = 0; bound <= 3; bound++) {
            Checks.due("none: countSolutions(" + bound + ")", x.countSolutions(bound), 0);
        }
    }

    /** A bound and a constraint hold together, whichever of them is narrower. */
    private static void constraintsBeyondTheBound() {
        WordEquations x = Checks.loaded("X=X;X>2");
        Checks.due("X>2: countSolutions(2)", x.countSolutions(2), 0);
        Checks.due("X>2: countSolutions(3)", x.countSolutions(3), 8);
        Checks.due("X>2: firstSolution(3, 1)", x.firstSolution(3, 1), 7);
        Checks.due("X>2: leastTotalLength(3)", x.leastTotalLength(3), 3);
        x = Checks.loaded("X=X;X<4");
        Checks.due("X<4: countSolutions(3)", x.countSolutions(3), 15);
        x = Checks.loaded("X=X;X<3");
        Checks.due("X<3: countSolutions(3)", x.countSolutions(3), 7);
        x = Checks.loaded("X=X;X=4");
        Checks.due("X=4: countSolutions(3)", x.countSolutions(3), 0);
    }

    /** firstSolution: NO_SUCH_INDEX is listed before BAD_VALUE, and BAD_VALUE before NONE. */
    private static void firstSolutionOrderOfErrors() {
        for (String text : new String[] {"X=X", "a=b"}) {
            WordEquations x = Checks.loaded(text);
            for (int badVariable : Checks.outside(0, 3)) {
                Checks.due(text + ": firstSolution(0, " + badVariable + ")", x.firstSolution(0, badVariable), -1);
                for (int badBound : Checks.outside(0, 3)) {
                    Checks.due(text + ": firstSolution(" + badBound + ", " + badVariable + ")",
                            x.firstSolution(badBound, badVariable), WordEquations.NO_SUCH_INDEX);
                }
            }
            for (int badBound : Checks.outside(0, 3)) {
                Checks.due(text + ": firstSolution(" + badBound + ", 0)", x.firstSolution(badBound, 0), -2);
                Checks.due(text + ": firstSolution(" + badBound + ", 3)", x.firstSolution(badBound, 3), -2);
            }
        }
    }

    /** "NONE if there is no such solution." */
    private static void firstSolutionIsNone() {
        WordEquations x = Checks.loaded("XY=bbb");
        for (int variable = 0; variable < 4; variable++) {
            Checks.due("XY=bbb: firstSolution(0, v)", x.firstSolution(0, variable), WordEquations.NONE);
            Checks.due("XY=bbb: firstSolution(1, v)", x.firstSolution(1, variable), WordEquations.NONE);
        }
        Checks.due("XY=bbb: leastTotalLength(1)", x.leastTotalLength(1), WordEquations.NONE);
        Checks.due("XY=bbb: leastTotalLength(2)", x.leastTotalLength(2), 3);
        Checks.due("XY=bbb: firstSolution(2, 1)", x.firstSolution(2, 1), 2);
        Checks.due("XY=bbb: firstSolution(2, 2)", x.firstSolution(2, 2), 6);
        Checks.due("XY=bbb: firstSolution(3, 2)", x.firstSolution(3, 2), 14);
    }

    /** "They are ordered by the word of W; for equal words of W by the word of X, then by Y, then by the word of Z." */
    private static void firstSolutionOrderOfVariables() {
        String[] pairs = {"WX", "WY", "WZ", "XY", "XZ", "YZ"};
        for (String pair : pairs) {
            int first = NAMES.indexOf(pair.charAt(0));
            int second = NAMES.indexOf(pair.charAt(1));
            WordEquations x = Checks.loaded(pair + "=ab");
            Checks.due(pair + "=ab: the word of the first", x.firstSolution(2, first), 0);
            Checks.due(pair + "=ab: the word of the second", x.firstSolution(2, second), 4);
            x = Checks.loaded("" + pair.charAt(1) + pair.charAt(0) + "=ab");
            Checks.due(pair + " the other way: the word of the first", x.firstSolution(2, first), 0);
            Checks.due(pair + " the other way: the word of the second", x.firstSolution(2, second), 4);
        }
    }

    /** "Words are ordered by length; words of the same length are ordered like in a dictionary, a before b." */
    private static void firstSolutionOrderOfWords() {
        WordEquations x = Checks.loaded("WYX=XXbba");
        Checks.due("W may be aa", x.satisfies(3, 1, 6, 0), 1);
        Checks.due("W may be b, which is shorter", x.satisfies(2, 0, 5, 0), 1);
        Checks.due("neither nothing nor a: firstSolution(2, 0)", x.firstSolution(2, 0), 2);
        x = Checks.loaded("WXYZ=ba;W>0;X>0");
        Checks.due("WXYZ=ba: firstSolution(3, 0)", x.firstSolution(3, 0), 2);
        Checks.due("WXYZ=ba: firstSolution(3, 1)", x.firstSolution(3, 1), 1);
        x = Checks.loaded("WbX=YaZ;W=1;Y=1;X=1");
        Checks.due("WbX=YaZ: firstSolution(1, 0)", x.firstSolution(1, 0), WordEquations.NONE);
        x = Checks.loaded("WX=YZ;W=2;Y=1");
        Checks.due("two letters of W, the first in the dictionary", x.firstSolution(3, 0), 3);
    }

    /** firstSolution: the numbers of the words of at most three letters are 0 to 14. */
    private static void smallestAndLargestFirstWord() {
        WordEquations x = Checks.loaded("WXYZ=WXYZ");
        WordEquations y = Checks.of("WXYZ", "bbbbbbbbbbbb");
        for (int variable = 0; variable < 4; variable++) {
            Checks.due("smallest: firstSolution", x.firstSolution(3, variable), 0);
            Checks.due("largest: firstSolution", y.firstSolution(3, variable), 14);
            Checks.due("largest: firstSolution with bound 2", y.firstSolution(2, variable), WordEquations.NONE);
        }
        WordEquations z = Checks.loaded("X=bbb");
        Checks.due("a variable that is not used: firstSolution(3, 0)", z.firstSolution(3, 0), 0);
        Checks.due("a variable that is not used: firstSolution(3, 3)", z.firstSolution(3, 3), 0);
    }

    /** "The total length of a solution is the sum of the lengths of its four words": 0 to 12 letters. */
    private static void leastAndMostTotalLength() {
        for (int letters = 0; letters <= 12; letters++) {
            WordEquations x = Checks.of("WXYZ", "b".repeat(letters));
            for (int bound = 0; bound <= 3; bound++) {
                Checks.due(letters + " letters: leastTotalLength(" + bound + ")", x.leastTotalLength(bound),
                        letters <= 4 * bound ? letters : WordEquations.NONE);
            }
        }
    }

    /** leastTotalLength: "the smallest total length of a solution", wherever it stands in the order. */
    private static void leastIsNotTheFirst() {
        WordEquations x = Checks.loaded("WWWX=bbb");
        Checks.due("the first is long: firstSolution(3, 1)", x.firstSolution(3, 1), 14);
        Checks.due("the last is short: leastTotalLength(3)", x.leastTotalLength(3), 1);
        x = Checks.loaded("XWWW=bbb;X>0");
        Checks.due("there is only the long one: leastTotalLength(3)", x.leastTotalLength(3), 3);
    }

    /** "A length solution with bound B gives each used variable a length from 0 to B". */
    private static void lengthsOfExactlyTheBound() {
        for (int variable = 0; variable < 4; variable++) {
            for (int letters = 0; letters <= 11; letters++) {
                WordEquations x = Checks.of("" + NAMES.charAt(variable), "ab".repeat(6).substring(0, letters));
                for (int bound = 0; bound <= 9; bound++) {
                    Checks.due(letters + " letters: countLengths(" + bound + ")", x.countLengths(bound),
                            letters <= bound ? 1 : 0);
                }
            }
        }
    }

    /** "and each other variable the length 0": from none to all lengths of four used variables. */
    private static void fewestAndMostLengths() {
        String[] equations = {"=", "W=W", "WX=WX", "WXY=WXY", "WXYZ=WXYZ"};
        for (int bound = 0; bound <= 9; bound++) {
            int want = 1;
            for (String equation : equations) {
                int got = Checks.loaded(equation).countLengths(bound);
                Checks.due(equation + ": countLengths(" + bound + ")", got, want);
                want *= bound + 1;
            }
            Checks.due("a=: countLengths(" + bound + ")", Checks.loaded("a=").countLengths(bound), 0);
        }
        WordEquations x = Checks.of("WWWWWWWWWWWW", "X");
        Checks.due("twelve times W: countLengths(9)", x.countLengths(9), 1);
        x = Checks.of("WWWWWWWWWWWW", "XXXXXXXXXXXX");
        Checks.due("twelve times both: countLengths(9)", x.countLengths(9), 10);
    }

    /** countLengths: "bound: 0 to 9", "BAD_VALUE if bound is out of range". */
    private static void rangeOfLengthBounds() {
        for (String text : new String[] {"X=X", "a=b", "a="}) {
            WordEquations x = Checks.loaded(text);
            Checks.isTrue(text + ": countLengths(0)", x.countLengths(0) >= 0);
            Checks.isTrue(text + ": countLengths(9)", x.countLengths(9) >= 0);
            for (int bad : Checks.outside(0, 9)) {
                Checks.due(text + ": countLengths(" + bad + ")", x.countLengths(bad), WordEquations.BAD_VALUE);
            }
        }
    }

    /** "such that both sides have the same length (each letter counts 1) and all length constraints hold". */
    private static void eachLetterCountsOne() {
        Checks.due("abab=bbbb: countLengths(0)", Checks.loaded("abab=bbbb").countLengths(0), 1);
        Checks.due("abab=bbb: countLengths(9)", Checks.loaded("abab=bbb").countLengths(9), 0);
        Checks.due("aX=bb;X=1: countLengths(9)", Checks.loaded("aX=bb;X=1").countLengths(9), 1);
        Checks.due("aX=bb;X=0: countLengths(9)", Checks.loaded("aX=bb;X=0").countLengths(9), 0);
        WordEquations x = Checks.of("aaaaaaaaaaaa", "bbbbbbbbbbbb");
        Checks.due("12 letters on both sides: countLengths(0)", x.countLengths(0), 1);
        x = Checks.of("aaaaaaaaaaaa", "bbbbbbbbbbb");
        Checks.due("12 and 11 letters: countLengths(9)", x.countLengths(9), 0);
    }

    private static void dueRefuted(String left, String right, boolean refuted) {
        int want = refuted ? 1 : 0;
        Checks.due(left + "=" + right + ": refutedByCounting()", Checks.of(left, right).refutedByCounting(), want);
        Checks.due(right + "=" + left + ": refutedByCounting()", Checks.of(right, left).refutedByCounting(), want);
    }

    /** "if each variable occurs on both sides the same number of times": one occurrence more or less is enough. */
    private static void countingVariables() {
        for (int variable = 0; variable < 4; variable++) {
            String name = NAMES.substring(variable, variable + 1);
            for (int count = 0; count <= 5; count++) {
                dueRefuted(name.repeat(count) + "a", name.repeat(count), true);
                dueRefuted(name.repeat(count + 1) + "a", name.repeat(count), false);
                dueRefuted(name.repeat(count) + "a", name.repeat(count + 1), false);
            }
        }
        dueRefuted("WXYa", "XYWb", true);
        dueRefuted("WXYa", "XYZb", false);
    }

    /** "and some letter does not occur on both sides the same number of times": one letter is enough. */
    private static void countingLetters() {
        for (int count = 0; count <= 5; count++) {
            dueRefuted("a".repeat(count), "a".repeat(count), false);
            dueRefuted("a".repeat(count + 1), "a".repeat(count), true);
            dueRefuted("b".repeat(count), "b".repeat(count), false);
            dueRefuted("b".repeat(count + 1), "b".repeat(count), true);
        }
        dueRefuted("ab", "ba", false);
        dueRefuted("aab", "ba", true);
        dueRefuted("abb", "ba", true);
        dueRefuted("aab", "bba", true);
    }

    /** The same sentence for empty and for full sides. */
    private static void countingOnEmptyAndFullSides() {
        dueRefuted("", "", false);
        dueRefuted("a", "", true);
        dueRefuted("b", "", true);
        dueRefuted("X", "", false);
        dueRefuted("XXXXXXXXXXXa", "XXXXXXXXXXXb", true);
        dueRefuted("XXXXXXXXXXXa", "aXXXXXXXXXXX", false);
        dueRefuted("XXXXXXXXXXXX", "XXXXXXXXXXXa", false);
        dueRefuted("aaaaaaaaaaaa", "aaaaaaaaaaab", true);
    }
}
