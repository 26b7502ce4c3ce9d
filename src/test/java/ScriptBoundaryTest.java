import java.util.List;

/**
 * The boundary cases of SCRIPTS and of the promises 28 and 29. Each test stands under the sentence of the document that
 * it holds to.
 */
public final class ScriptBoundaryTest {
    public static void main(String[] args) {
        numberOfCommands();
        numberOfDigits();
        negativeScripts();
        missingDigitsAreZeros();
        everyGroup();
        removedVariables();
        sidesOfNineAndMoreSymbols();
        solutionsWithBoundTwo();
        ninetyNineSolutionsAndMore();
        answersOfTheSearch();
        nineOccurrencesAndMore();
        indexOfTheFirstFailure();
        sameAsTheMethods();
        commandsRunOnACopy();
        numberOfChecks();
        seeds();
        firstCheckComesAfterTheFirstStep();
        wordsOfTheChecks();
        allAndNoneSatisfied();
        Checks.finish();
    }

    /** The equation is only read to tell of a wrong answer: an object has no more than 512 calls. */
    private static void due(WordEquations x, int n, long script, int want) {
        int got = x.runScript(n, script);
        if (got != want) {
            Checks.due(Checks.shown(x) + ": runScript(" + n + ", " + script + ")", got, want);
        }
    }

    /** "n: number of commands, 1 to 4", "BAD_VALUE if n is out of range". */
    private static void numberOfCommands() {
        WordEquations x = Checks.loaded("aX=b");
        due(x, 1, 502L, WordEquations.NONE);
        due(x, 2, 502502L, WordEquations.NONE);
        due(x, 3, 502502502L, WordEquations.NONE);
        due(x, 4, 502502502502L, WordEquations.NONE);
        for (int bad : Checks.outside(1, 4)) {
            due(x, bad, 0L, WordEquations.BAD_VALUE);
            due(x, bad, 502L, WordEquations.BAD_VALUE);
            due(x, bad, -1L, WordEquations.BAD_VALUE);
            due(x, bad, Long.MAX_VALUE, WordEquations.BAD_VALUE);
        }
    }

    /** "BAD_VALUE ... if script ... has more than 3 * n digits". */
    private static void numberOfDigits() {
        WordEquations x = Checks.loaded("aX=b");
        long limit = 1;
        for (int n = 1; n <= 4; n++) {
            limit *= 1000;
            due(x, n, limit - 1, 0);
            due(x, n, limit, WordEquations.BAD_VALUE);
            due(x, n, limit + 1, WordEquations.BAD_VALUE);
            due(x, n, 10 * limit, WordEquations.BAD_VALUE);
            due(x, n, 502 * (limit / 1000), n == 1 ? WordEquations.NONE : 1);
            due(x, n, Long.MAX_VALUE, WordEquations.BAD_VALUE);
        }
    }

    /** "BAD_VALUE ... if script is negative". */
    private static void negativeScripts() {
        WordEquations x = Checks.loaded("aX=b");
        for (int n = 1; n <= 4; n++) {
            for (long bad : new long[] {-1L, -502L, -1000L, Long.MIN_VALUE, Long.MIN_VALUE + 1}) {
                due(x, n, bad, WordEquations.BAD_VALUE);
            }
            due(x, n, 0L, 0);
        }
    }

    /** "a number of at most 3 * n digits (0 or more)": what is missing is 0, and the group 0 0 0 fails. */
    private static void missingDigitsAreZeros() {
        WordEquations x = Checks.loaded("aX=b");
        due(x, 1, 0L, 0);
        due(x, 1, 2L, 0);
        due(x, 1, 99L, 0);
        due(x, 2, 502L, 0);
        due(x, 2, 999L, 0);
        due(x, 2, 99502L, 0);
        due(x, 4, 502502502L, 0);
        due(x, 2, 502000L, 1);
        due(x, 4, 502502502000L, 3);
    }

    /** The document's list of the commands, for one group and the equation of an object. */
    private static boolean succeeds(WordEquations x, int group) {
        int d1 = group / 100;
        int d2 = group / 10 % 10;
        int d3 = group % 10;
        switch (d1) {
            case 1: case 2: case 3:
                return d2 == 0 && d3 == 0;
            case 4:
                return d2 <= 3 && d3 == 0;
            case 5:
                return d2 <= 1 && x.sideLength(d2) == d3;
            case 6:
                return x.countSolutions(2) == 10 * d2 + d3;
            case 7:
                return d2 == 0 && x.decide() == d3;
            case 8:
                return d2 <= 3 && x.occurrences(0, d2) + x.occurrences(1, d2) == d3;
            default:
                return false;
        }
    }

    /** "(With other digits these commands fail.)" and "Any other group fails." */
    private static void everyGroup() {
        for (String text : new String[] {"=", "a=b", "X=X", "XX=YaZ", "XaX=bXY", "WWWXXXXX=WWWXXXXY", "X=Y;X=2"}) {
            WordEquations facts = Checks.loaded(text);
            for (int group = 0; group <= 999; group++) {
                int want = succeeds(facts, group) ? WordEquations.NONE : 0;
                Checks.due(text + ": runScript(1, " + group + ")", Checks.loaded(text).runScript(1, group), want);
            }
        }
    }

    /** "4 v 0: removes variable v, 0 to 3": a variable that does not occur is removed, too. */
    private static void removedVariables() {
        WordEquations x = Checks.loaded("WXYZ=ZYXW");
        due(x, 3, 400800505L, 2);
        due(x, 4, 400503513800L, WordEquations.NONE);
        due(x, 4, 430503513830L, WordEquations.NONE);
        due(x, 4, 400400400503L, WordEquations.NONE);
        due(x, 4, 400410420501L, WordEquations.NONE);
        due(x, 1, 440L, 0);
        due(x, 1, 401L, 0);
        due(Checks.loaded("="), 4, 400410420430L, WordEquations.NONE);
    }

    /** "5 s n: succeeds if s is a side and that side has exactly n symbols": one digit tells no more than nine. */
    private static void sidesOfNineAndMoreSymbols() {
        for (int length = 0; length <= 12; length++) {
            WordEquations left = Checks.of("a".repeat(length), "b");
            WordEquations right = Checks.of("b", "a".repeat(length));
            for (int n = 0; n <= 9; n++) {
                due(left, 1, 500 + n, n == length ? WordEquations.NONE : 0);
                due(right, 1, 510 + n, n == length ? WordEquations.NONE : 0);
                due(left, 1, 520 + n, 0);
            }
        }
    }

    /** "6 x y: succeeds if the number of solutions with bound 2 is exactly xy." */
    private static void solutionsWithBoundTwo() {
        due(Checks.loaded("X=X"), 1, 607L, WordEquations.NONE);
        due(Checks.loaded("X=X"), 1, 603L, 0);
        due(Checks.loaded("X=X"), 1, 615L, 0);
        due(Checks.loaded("X=aa"), 1, 601L, WordEquations.NONE);
        due(Checks.loaded("X=aaa"), 1, 600L, WordEquations.NONE);
        due(Checks.loaded("X=X;X>1"), 1, 604L, WordEquations.NONE);
        due(Checks.loaded("=;X>0"), 1, 600L, WordEquations.NONE);
        due(Checks.loaded("X=X;X>0"), 3, 606410600L, WordEquations.NONE);
    }

    /** The same sentence: two digits tell no more than 99 solutions. */
    private static void ninetyNineSolutionsAndMore() {
        dueSolutions("XZb=XZYW", 98);
        dueSolutions("XYYZ=YXWY", 99);
        dueSolutions("WXY=YZW", 101);
        dueSolutions("XYZ=XYZ", 343);
        dueSolutions("WXYZ=WXYZ", 2401);
    }

    private static void dueSolutions(String text, int count) {
        WordEquations x = Checks.loaded(text);
        Checks.due(text + ": countSolutions(2)", x.countSolutions(2), count);
        for (int n = 0; n <= 99; n++) {
            Checks.due(text + ": runScript(1, " + (600 + n) + ")", x.runScript(1, 600 + n),
                    n == count ? WordEquations.NONE : 0);
        }
    }

    /** "7 0 r: succeeds if the answer of the search is r", at 200 nodes and at 12 symbols, too. */
    private static void answersOfTheSearch() {
        dueAnswer(Checks.loaded("aYYZZ=XbX"), WordEquations.UNSATISFIABLE);
        dueAnswer(Checks.loaded("bXXXbY=ZYa"), WordEquations.UNKNOWN);
        dueAnswer(Checks.loaded("WaYZ=XXbX"), WordEquations.SATISFIABLE);
        dueAnswer(Checks.loaded("XXbY=YaZX"), WordEquations.UNKNOWN);
        dueAnswer(Checks.of("XXaaaaaaaaa", "b"), WordEquations.UNSATISFIABLE);
        dueAnswer(Checks.of("XXaaaaaaaaaa", "b"), WordEquations.UNKNOWN);
        dueAnswer(Checks.loaded("="), WordEquations.SATISFIABLE);
    }

    private static void dueAnswer(WordEquations x, int answer) {
        for (int r = 0; r <= 9; r++) {
            due(x, 1, 700 + r, r == answer ? WordEquations.NONE : 0);
            due(x, 1, 710 + r, 0);
            due(x, 1, 790 + r, 0);
        }
    }

    /** "8 v n: ... occurs exactly n times in the equation, both sides together": one digit tells no more than nine. */
    private static void nineOccurrencesAndMore() {
        for (int variable = 0; variable < 4; variable++) {
            String name = "WXYZ".substring(variable, variable + 1);
            for (int left = 0; left <= 12; left += 4) {
                for (int right = 0; right <= 12; right++) {
                    WordEquations x = Checks.of(name.repeat(left), name.repeat(right));
                    for (int n = 0; n <= 9; n++) {
                        due(x, 1, 800 + 10 * variable + n, n == left + right ? WordEquations.NONE : 0);
                    }
                }
            }
            for (int n = 0; n <= 9; n++) {
                due(Checks.loaded("="), 1, 840 + n, 0);
            }
        }
    }

    /** "the index, from 0, of the first command that fails, or NONE if all succeed"; the first group is the highest. */
    private static void indexOfTheFirstFailure() {
        WordEquations x = Checks.loaded("aX=b");
        for (int n = 1; n <= 4; n++) {
            for (int first = 0; first <= n; first++) {
                for (int failing : new int[] {0, 503, 999}) {
                    long script = 0;
                    long allBehindFail = 0;
                    for (int i = 0; i < n; i++) {
                        script = 1000 * script + (i == first ? failing : 502);
                        allBehindFail = 1000 * allBehindFail + (i >= first ? failing : 502);
                    }
                    due(x, n, script, first == n ? WordEquations.NONE : first);
                    due(x, n, allBehindFail, first == n ? WordEquations.NONE : first);
                }
            }
        }
    }

    /** "The commands 1 to 4 do the same as the methods swapSides, reverse, cancel and eliminate." */
    private static void sameAsTheMethods() {
        List<Twins.Call> methods = List.of(WordEquations::swapSides, WordEquations::reverse, WordEquations::cancel,
                x -> x.eliminate(0), x -> x.eliminate(1), x -> x.eliminate(2), x -> x.eliminate(3));
        int[] commands = {100, 200, 300, 400, 410, 420, 430};
        for (String text : new String[] {"=", "a=", "=X", "aXb=aYb", "aXa=a", "WXa=bYZ", "XaX=bXY", "XabX=Xab"}) {
            for (int one = 0; one < commands.length; one++) {
                for (int two = 0; two < commands.length; two++) {
                    WordEquations changed = Checks.loaded(text);
                    methods.get(one).on(changed);
                    methods.get(two).on(changed);
                    WordEquations x = Checks.loaded(text);
                    long script = 1000L * commands[one] + commands[two];
                    due(x, 3, 1000 * script + 500 + changed.sideLength(0), WordEquations.NONE);
                    due(x, 3, 1000 * script + 510 + changed.sideLength(1), WordEquations.NONE);
                    due(x, 3, 1000 * script + 600 + changed.countSolutions(2) % 100,
                            changed.countSolutions(2) < 100 ? WordEquations.NONE : 2);
                    due(x, 3, 1000 * script + 700 + changed.decide(), WordEquations.NONE);
                    for (int variable = 0; variable < 4; variable++) {
                        int count = changed.occurrences(0, variable) + changed.occurrences(1, variable);
                        due(x, 3, 1000 * script + 800 + 10 * variable + count, WordEquations.NONE);
                    }
                }
            }
        }
    }

    /** "The commands run on a copy of the equation", whether the script succeeds or fails. */
    private static void commandsRunOnACopy() {
        for (long script : new long[] {100200300410L, 100200300999L, 400410420430L, 999100200300L, 300100600702L}) {
            Twins.keepsAll("runScript(4, " + script + ")", x -> x.runScript(4, script));
        }
    }

    /** randomChecks: "m: number of checks, 1 to 200", "BAD_VALUE if m is out of range". */
    private static void numberOfChecks() {
        WordEquations x = new WordEquations();
        for (int m = 1; m <= 200; m++) {
            Checks.due("randomChecks(0, " + m + ")", x.randomChecks(0, m), m);
        }
        for (int bad : Checks.outside(1, 200)) {
            for (long seed : new long[] {0, -1, Long.MIN_VALUE, Long.MAX_VALUE}) {
                Checks.due("randomChecks(" + seed + ", " + bad + ")", x.randomChecks(seed, bad), -2);
            }
        }
    }

    /** The four numbers of a check, by the document's words. */
    private static int[] numbers(long seed, int check) {
        long x = seed;
        for (int i = 0; i <= check; i++) {
            x = x * 6364136223846793005L + 1442695040888963407L;
        }
        int v = (int) (x >>> 33);
        return new int[] {v % 15, v / 15 % 15, v / 225 % 15, v / 3375 % 15};
    }

    /** "seed: any long", "(with long overflow)". */
    private static void seeds() {
        for (long seed : new long[] {0, 1, -1, 1L << 33, Long.MIN_VALUE, Long.MAX_VALUE, Long.MIN_VALUE + 1}) {
            for (String text : new String[] {"W=X", "X=Y", "Y=Z", "WX=YZ", "=;W=3;X<3", "=;Z>2"}) {
                WordEquations x = Checks.loaded(text);
                int want = 0;
                for (int check = 0; check < 200; check++) {
                    int[] n = numbers(seed, check);
                    want += x.satisfies(n[0], n[1], n[2], n[3]);
                }
                Checks.due(text + ": randomChecks(" + seed + ", 200)", x.randomChecks(seed, 200), want);
            }
        }
    }

    /** "Each of the m checks first replaces x": the seed itself is not a check. */
    private static void firstCheckComesAfterTheFirstStep() {
        String[] words = {"", "a", "b", "aa", "ab", "ba", "bb", "aaa", "aab", "aba", "abb", "baa", "bab", "bba", "bbb"};
        for (long seed : new long[] {0, 1, -1, 123456789L, Long.MIN_VALUE, Long.MAX_VALUE}) {
            for (int variable = 0; variable < 4; variable++) {
                int number = numbers(seed, 0)[variable];
                String name = "WXYZ".substring(variable, variable + 1);
                for (int other = 0; other < words.length; other++) {
                    WordEquations x = Checks.loaded(name + "=" + words[other]);
                    Checks.due(name + "=" + words[other] + ": randomChecks(" + seed + ", 1)", x.randomChecks(seed, 1),
                            other == number ? 1 : 0);
                }
            }
        }
    }

    /** "The numbers of the words of W, X, Y and Z are v % 15, ...": 0 to 14, so no word has four letters. */
    private static void wordsOfTheChecks() {
        for (String name : new String[] {"W", "X", "Y", "Z"}) {
            Checks.due(name + ">3", Checks.loaded("=;" + name + ">3").randomChecks(7, 200), 0);
            Checks.due(name + "<4", Checks.loaded("=;" + name + "<4").randomChecks(7, 200), 200);
            Checks.isTrue(name + "=3 happens", Checks.loaded("=;" + name + "=3").randomChecks(7, 200) > 0);
            Checks.isTrue(name + "=0 happens", Checks.loaded("=;" + name + "=0").randomChecks(7, 200) > 0);
        }
    }

    /** "Returns for how many checks satisfies would return 1": none to all. */
    private static void allAndNoneSatisfied() {
        Checks.due("WXYZ=WXYZ", Checks.loaded("WXYZ=WXYZ").randomChecks(9, 200), 200);
        Checks.due("a=b", Checks.loaded("a=b").randomChecks(9, 200), 0);
        Checks.due("=;W<0", Checks.loaded("=;W<0").randomChecks(9, 200), 0);
        Twins.keepsAll("randomChecks(9, 200)", x -> x.randomChecks(9, 200));
    }
}
