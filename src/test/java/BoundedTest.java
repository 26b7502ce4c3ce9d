/** Promises 16 to 21: satisfies, countSolutions, firstSolution, leastTotalLength, countLengths, refutedByCounting. */
public final class BoundedTest {
    public static void main(String[] args) {
        wordNumbers();
        satisfies();
        satisfiesWithConstraints();
        longestWords();
        countSolutions();
        unusedVariables();
        firstSolution();
        leastTotalLength();
        countLengths();
        refutedByCounting();
        outOfRange();
        Checks.finish();
    }

    /** Every word of at most five letters is the only word that solves X = word, and it has its number. */
    private static void wordNumbers() {
        int number = 0;
        for (int length = 0; length <= 5; length++) {
            for (int bits = 0; bits < 1 << length; bits++) {
                StringBuilder word = new StringBuilder();
                for (int i = length - 1; i >= 0; i--) {
                    word.append((bits >> i & 1) == 0 ? 'a' : 'b');
                }
                WordEquations x = Checks.loaded("X=" + word);
                for (int other = 0; other <= 62; other++) {
                    Checks.due(word + ": satisfies(0, " + other + ", 0, 0)", x.satisfies(0, other, 0, 0),
                            other == number ? 1 : 0);
                }
                if (length <= 3) {
                    Checks.due(word + ": firstSolution(3, 1)", x.firstSolution(3, 1), number);
                }
                number++;
            }
        }
        Checks.due("words of at most five letters", number, 63);
    }

    private static void satisfies() {
        WordEquations x = Checks.loaded("WaX=YbZ");
        Checks.due("satisfies(0, 5, 1, 1)", x.satisfies(0, 5, 1, 1), 1);
        Checks.due("satisfies(2, 0, 0, 1)", x.satisfies(2, 0, 0, 1), 1);
        Checks.due("satisfies(0, 0, 0, 0)", x.satisfies(0, 0, 0, 0), 0);
        Checks.due("satisfies(0, 2, 1, 0)", x.satisfies(0, 2, 1, 0), 1);
        Checks.due("satisfies(0, 2, 0, 1)", x.satisfies(0, 2, 0, 1), 0);
        for (int bad : new int[] {-1, 63, Integer.MIN_VALUE, Integer.MAX_VALUE}) {
            Checks.due("satisfies(" + bad + ", 0, 0, 0)", x.satisfies(bad, 0, 0, 0), -2);
            Checks.due("satisfies(0, " + bad + ", 0, 0)", x.satisfies(0, bad, 0, 0), -2);
            Checks.due("satisfies(0, 0, " + bad + ", 0)", x.satisfies(0, 0, bad, 0), -2);
            Checks.due("satisfies(0, 0, 0, " + bad + ")", x.satisfies(0, 0, 0, bad), -2);
        }
    }

    private static void satisfiesWithConstraints() {
        WordEquations x = Checks.loaded("=;W<2;X=1;Y>1;Y<4");
        Checks.due("satisfies(0, 1, 3, 62)", x.satisfies(0, 1, 3, 62), 1);
        Checks.due("satisfies(2, 2, 14, 0)", x.satisfies(2, 2, 14, 0), 1);
        Checks.due("W too long", x.satisfies(3, 1, 3, 0), 0);
        Checks.due("X too short", x.satisfies(0, 0, 3, 0), 0);
        Checks.due("X too long", x.satisfies(0, 3, 3, 0), 0);
        Checks.due("Y too short", x.satisfies(0, 1, 2, 0), 0);
        Checks.due("Y too long", x.satisfies(0, 1, 15, 0), 0);
        Checks.due("BAD_VALUE goes before", x.satisfies(3, 0, 0, 63), -2);
        x = Checks.loaded("=;Z>5");
        Checks.due("no word has more than five letters", x.satisfies(0, 0, 0, 62), 0);
    }

    /** Sides of 12 variables with words of five letters: 60 letters. */
    private static void longestWords() {
        WordEquations x = Checks.loaded("XXXX=YYYY");
        Checks.type(x, "XXX");
        x.substitute(1);
        Checks.type(x, "YYY");
        x.substitute(2);
        Checks.due("both 62", x.satisfies(0, 62, 62, 0), 1);
        Checks.due("both 31", x.satisfies(0, 31, 31, 0), 1);
        Checks.due("62 and 61", x.satisfies(0, 62, 61, 0), 0);
        Checks.due("62 and 46", x.satisfies(0, 62, 46, 0), 0);
        Checks.due("46 and 62", x.satisfies(0, 46, 62, 0), 0);
        Checks.due("31 and 32", x.satisfies(0, 31, 32, 0), 0);
        Checks.due("31 and 15", x.satisfies(0, 31, 15, 0), 0);
        Checks.due("countSolutions(3)", x.countSolutions(3), 15);
    }

    private static void countSolutions() {
        int[] words = {1, 3, 7, 15};
        WordEquations x = Checks.loaded("X=X");
        for (int bound = 0; bound <= 3; bound++) {
            Checks.due("X=X: countSolutions(" + bound + ")", x.countSolutions(bound), words[bound]);
        }
        x = Checks.loaded("WXYZ=WXYZ");
        Checks.due("WXYZ=WXYZ: countSolutions(3)", x.countSolutions(3), 15 * 15 * 15 * 15);
        x = Checks.loaded("XY=ab");
        Checks.due("XY=ab: countSolutions(0)", x.countSolutions(0), 0);
        Checks.due("XY=ab: countSolutions(1)", x.countSolutions(1), 1);
        Checks.due("XY=ab: countSolutions(2)", x.countSolutions(2), 3);
        x = Checks.loaded("XY=YX;X=1;Y=2");
        Checks.due("XY=YX;X=1;Y=2: countSolutions(3)", x.countSolutions(3), 2);
        x = Checks.loaded("a=b");
        Checks.due("a=b: countSolutions(3)", x.countSolutions(3), 0);
    }

    private static void unusedVariables() {
        WordEquations x = Checks.loaded("X=a;Y>0");
        Checks.due("a constraint on an unused variable: countSolutions(3)", x.countSolutions(3), 0);
        Checks.due("the same: firstSolution(3, 1)", x.firstSolution(3, 1), -9);
        Checks.due("the same: leastTotalLength(3)", x.leastTotalLength(3), -9);
        Checks.due("the same: countLengths(9)", x.countLengths(9), 0);
        Checks.due("but satisfies takes any word", x.satisfies(0, 1, 1, 0), 1);
        x = Checks.loaded("X=a;Y<1;Z=0");
        Checks.due("the empty word suits: countSolutions(1)", x.countSolutions(1), 1);
        Checks.due("the empty word suits: countLengths(1)", x.countLengths(1), 1);
        x = Checks.loaded("X=Y");
        Checks.due("used: countSolutions(1)", x.countSolutions(1), 3);
        x.eliminate(1);
        Checks.due("after eliminate(1): countSolutions(1)", x.countSolutions(1), 1);
    }

    /** The order is by W, then X, then Y, then Z; shorter words go before longer ones. */
    private static void firstSolution() {
        WordEquations x = Checks.loaded("WXYZ=ab");
        int[] want = {0, 0, 0, 4};
        for (int variable = 0; variable < 4; variable++) {
            Checks.due("WXYZ=ab: firstSolution(2, " + variable + ")", x.firstSolution(2, variable), want[variable]);
        }
        Checks.due("WXYZ=ab: firstSolution(1, 2)", x.firstSolution(1, 2), 1);
        Checks.due("WXYZ=ab: firstSolution(1, 3)", x.firstSolution(1, 3), 2);
        x = Checks.loaded("aX=YX;X>1");
        Checks.due("aX=YX;X>1: firstSolution(3, 1)", x.firstSolution(3, 1), 3);
        Checks.due("aX=YX;X>1: firstSolution(3, 2)", x.firstSolution(3, 2), 1);
        x = Checks.loaded("bXb=Wb;W=3");
        Checks.due("bXb=Wb;W=3: firstSolution(3, 0)", x.firstSolution(3, 0), 11);
        Checks.due("bXb=Wb;W=3: firstSolution(3, 1)", x.firstSolution(3, 1), 3);
        x = Checks.loaded("X=aaa");
        Checks.due("X=aaa: firstSolution(2, 1)", x.firstSolution(2, 1), -9);
        Checks.due("X=aaa: firstSolution(3, 1)", x.firstSolution(3, 1), 7);
        Checks.due("X=aaa: firstSolution(3, 0)", x.firstSolution(3, 0), 0);
    }

    private static void leastTotalLength() {
        WordEquations x = Checks.loaded("WWWX=aaa");
        Checks.due("WWWX=aaa: the first solution is the longer one: firstSolution(3, 1)", x.firstSolution(3, 1), 7);
        Checks.due("WWWX=aaa: leastTotalLength(3)", x.leastTotalLength(3), 1);
        x = Checks.loaded("WWWX=aaa;W<1");
        Checks.due("WWWX=aaa;W<1: leastTotalLength(3)", x.leastTotalLength(3), 3);
        Checks.due("WWWX=aaa;W<1: leastTotalLength(2)", x.leastTotalLength(2), -9);
        x = Checks.loaded("WX=aaaYb;Y<2");
        Checks.due("WX=aaaYb;Y<2: leastTotalLength(1)", x.leastTotalLength(1), -9);
        Checks.due("WX=aaaYb;Y<2: leastTotalLength(3)", x.leastTotalLength(3), 4);
        x = Checks.loaded("WXYZ=aaaaaaaa");
        Checks.due("WXYZ=aaaaaaaa: leastTotalLength(2)", x.leastTotalLength(2), 8);
        x = new WordEquations();
        Checks.due("=: leastTotalLength(0)", x.leastTotalLength(0), 0);
    }

    private static void countLengths() {
        WordEquations x = Checks.loaded("X=Y");
        Checks.due("X=Y: countLengths(0)", x.countLengths(0), 1);
        Checks.due("X=Y: countLengths(9)", x.countLengths(9), 10);
        x = Checks.loaded("XX=Yaab");
        Checks.due("XX=Yaab: countLengths(9)", x.countLengths(9), 5);
        Checks.due("XX=Yaab: countLengths(2)", x.countLengths(2), 1);
        Checks.due("XX=Yaab: countLengths(1)", x.countLengths(1), 0);
        x = Checks.loaded("WXYZ=ZYXW");
        Checks.due("WXYZ=ZYXW: countLengths(9)", x.countLengths(9), 10000);
        x = Checks.loaded("X=Y;X>2;Y<7;X<9;Y=5");
        Checks.due("X=Y with constraints: countLengths(9)", x.countLengths(9), 1);
        Checks.due("X=Y with constraints: countLengths(4)", x.countLengths(4), 0);
        x = Checks.loaded("a=b");
        Checks.due("a=b: letters only count: countLengths(3)", x.countLengths(3), 1);
        x = Checks.loaded("a=");
        Checks.due("a=: countLengths(3)", x.countLengths(3), 0);
    }

    private static void dueRefuted(String text, int want) {
        Checks.due(text + ": refutedByCounting()", Checks.loaded(text).refutedByCounting(), want);
    }

    private static void refutedByCounting() {
        dueRefuted("Xa=bX", 1);
        dueRefuted("Xab=baX", 0);
        dueRefuted("XYaa=YXa", 1);
        dueRefuted("XYbb=YXb", 1);
        dueRefuted("a=", 1);
        dueRefuted("=b", 1);
        dueRefuted("=", 0);
        dueRefuted("Wa=b", 0);
        dueRefuted("Xa=b", 0);
        dueRefuted("Ya=b", 0);
        dueRefuted("Za=b", 0);
        dueRefuted("XXa=Xb", 0);
        dueRefuted("XYa=XZb", 0);
        dueRefuted("WXYZa=ZYXWb", 1);
        dueRefuted("WXYZ=ZYXW", 0);
        dueRefuted("Wa=bX", 0);
        dueRefuted("Xa=bX;X<0", 1);
    }

    private static void outOfRange() {
        WordEquations x = Checks.loaded("X=a");
        for (int bad : new int[] {-1, 4, Integer.MIN_VALUE, Integer.MAX_VALUE}) {
            Checks.due("countSolutions(" + bad + ")", x.countSolutions(bad), -2);
            Checks.due("leastTotalLength(" + bad + ")", x.leastTotalLength(bad), -2);
            Checks.due("firstSolution(" + bad + ", 1)", x.firstSolution(bad, 1), -2);
            Checks.due("firstSolution(" + bad + ", 4)", x.firstSolution(bad, 4), -1);
            Checks.due("firstSolution(1, " + bad + ")", x.firstSolution(1, bad), -1);
        }
        Checks.due("firstSolution(0, 5): NO_SUCH_INDEX before NONE", x.firstSolution(0, 5), -1);
        Checks.due("firstSolution(0, 1)", x.firstSolution(0, 1), -9);
        Checks.due("countLengths(-1)", x.countLengths(-1), -2);
        Checks.due("countLengths(10)", x.countLengths(10), -2);
        Checks.due("countLengths(4)", x.countLengths(4), 1);
    }
}
