/** Promises 28 and 29: runScript, randomChecks. */
public final class ScriptTest {
    public static void main(String[] args) {
        rewritingCommands();
        wrongDigits();
        lengthCommand();
        solutionsCommand();
        searchCommand();
        occurrencesCommand();
        orderOfCommands();
        ranges();
        scriptsRunOnACopy();
        randomChecks();
        Checks.finish();
    }

    /** The equation is only read to tell of a wrong answer: an object has no more than 512 calls. */
    private static void due(WordEquations x, int n, long script, int want) {
        int got = x.runScript(n, script);
        if (got != want) {
            Checks.due(Checks.shown(x) + ": runScript(" + n + ", " + script + ")", got, want);
        }
    }

    private static void rewritingCommands() {
        WordEquations x = Checks.loaded("aXbb=aYb");
        due(x, 3, 100503514L, -9);
        due(x, 3, 300502511L, -9);
        due(x, 2, 410503L, -9);
        due(x, 2, 420512L, -9);
        due(x, 2, 400504L, -9);
        due(x, 2, 430504L, -9);
        x = Checks.loaded("bXb=aXX");
        due(x, 3, 700200702L, -9);
        x = Checks.loaded("ab=b");
        due(x, 4, 200300501510L, -9);
    }

    private static void wrongDigits() {
        WordEquations x = Checks.loaded("X=X");
        for (int command : new int[] {0, 1, 10, 99, 101, 110, 190, 201, 210, 301, 310, 401, 431, 440, 490, 520, 590,
            710, 711, 721, 703, 709, 840, 890, 900, 999}) {
            due(x, 1, command, 0);
        }
    }

    private static void lengthCommand() {
        WordEquations x = Checks.loaded("abX=XaabbYZW");
        for (int n = 0; n <= 9; n++) {
            due(x, 1, 500 + n, n == 3 ? -9 : 0);
            due(x, 1, 510 + n, n == 8 ? -9 : 0);
            due(x, 1, 520 + n, 0);
        }
        x = Checks.loaded("X=");
        Checks.type(x, "aaaaaaaaaaaa");
        x.substitute(1);
        due(x, 1, 502, 0);
        due(x, 1, 510, -9);
    }

    private static void solutionsCommand() {
        WordEquations x = Checks.loaded("X=X");
        due(x, 1, 607, -9);
        due(x, 1, 670, 0);
        x = Checks.loaded("XY=XY");
        due(x, 1, 649, -9);
        due(x, 1, 648, 0);
        x = Checks.loaded("XY=XY;X=1;Y=2");
        due(x, 1, 608, -9);
        due(x, 2, 410600L, -9);
        x = Checks.loaded("WXYZ=WXYZ");
        due(x, 1, 601, 0);
        due(x, 3, 400410649L, -9);
        x = Checks.loaded("a=b");
        due(x, 1, 600, -9);
    }

    private static void searchCommand() {
        String[] texts = {"a=b", "X=a", "XaX=bXY"};
        for (int answer = 0; answer < 3; answer++) {
            WordEquations x = Checks.loaded(texts[answer]);
            for (int r = 0; r <= 9; r++) {
                due(x, 1, 700 + r, r == answer ? -9 : 0);
                due(x, 1, 710 + r, 0);
            }
        }
        due(Checks.loaded("XbX=bXa"), 2, 410700L, -9);
    }

    private static void occurrencesCommand() {
        WordEquations x = Checks.loaded("XXaXXX=XXYYXXX");
        due(x, 1, 800, -9);
        due(x, 1, 801, 0);
        due(x, 1, 810, 0);
        due(x, 1, 822, -9);
        due(x, 1, 830, -9);
        due(x, 1, 840, 0);
        x.swapSides();
        x = Checks.loaded("XXXXX=XXXX");
        due(x, 1, 819, -9);
    }

    private static void orderOfCommands() {
        WordEquations x = Checks.loaded("aX=b");
        due(x, 4, 502511410501L, -9);
        due(x, 4, 502511410502L, 3);
        due(x, 4, 502511999501L, 2);
        due(x, 4, 502512410501L, 1);
        due(x, 4, 512512410501L, 0);
        due(x, 2, 502L, 0);
        due(x, 4, 0L, 0);
        due(x, 4, 502511L, 0);
    }

    private static void ranges() {
        WordEquations x = Checks.loaded("aX=b");
        due(x, 0, 0L, -2);
        due(x, 0, 502L, -2);
        due(x, -1, 502L, -2);
        due(x, 5, 502L, -2);
        due(x, Integer.MIN_VALUE, 0L, -2);
        due(x, Integer.MAX_VALUE, 0L, -2);
        due(x, 1, -1L, -2);
        due(x, 4, Long.MIN_VALUE, -2);
        due(x, 4, Long.MAX_VALUE, -2);
        due(x, 1, 999L, 0);
        due(x, 1, 1000L, -2);
        due(x, 2, 999999L, 0);
        due(x, 2, 1000000L, -2);
        due(x, 3, 999999999L, 0);
        due(x, 3, 1000000000L, -2);
        due(x, 4, 999999999999L, 0);
        due(x, 4, 1000000000000L, -2);
    }

    private static void scriptsRunOnACopy() {
        WordEquations x = Checks.loaded("aX=aY");
        x.reverse();
        due(x, 4, 100200300410L, -9);
        Checks.dueEquation("a script", x, "Xa=Ya");
        Checks.due("a script is no action: undo()", x.undo(), 0);
        due(x, 1, 200, -9);
        Checks.due("undo() after a script", x.undo(), -3);
    }

    /** The same numbers, computed here, for an equation between two variables. */
    private static int expected(long seed, int m, int one, int other) {
        long x = seed;
        int count = 0;
        for (int i = 0; i < m; i++) {
            x = x * 6364136223846793005L + 1442695040888963407L;
            int v = (int) (x >>> 33);
            int[] numbers = {v % 15, v / 15 % 15, v / 225 % 15, v / 3375 % 15};
            count += numbers[one] == numbers[other] ? 1 : 0;
        }
        return count;
    }

    private static void dueRandomChecks(int one, int other) {
        String text = "WXYZ".charAt(one) + "=" + "WXYZ".charAt(other);
        WordEquations x = Checks.loaded(text);
        for (long seed : new long[] {0, 1, -1, 5, 77777777777L, Long.MIN_VALUE, Long.MAX_VALUE}) {
            for (int m : new int[] {1, 2, 50, 199, 200}) {
                Checks.due(text + ": randomChecks(" + seed + ", " + m + ")", x.randomChecks(seed, m),
                        expected(seed, m, one, other));
            }
        }
    }

    private static void randomChecks() {
        dueRandomChecks(0, 3);
        dueRandomChecks(1, 2);
        dueRandomChecks(2, 0);
        WordEquations x = Checks.loaded("X=Y");
        for (int bad : new int[] {0, -1, 201, Integer.MIN_VALUE, Integer.MAX_VALUE}) {
            Checks.due("randomChecks(5, " + bad + ")", x.randomChecks(5, bad), -2);
        }
        Checks.due("=: randomChecks(3, 200)", new WordEquations().randomChecks(3, 200), 200);
        Checks.due("a=b: randomChecks(3, 200)", Checks.loaded("a=b").randomChecks(3, 200), 0);
        Checks.due("=;W>3: randomChecks(3, 200)", Checks.loaded("=;W>3").randomChecks(3, 200), 0);
        int shortWords = Checks.loaded("=;W<3").randomChecks(3, 200);
        int longWords = Checks.loaded("=;W>2").randomChecks(3, 200);
        Checks.due("W<3 and W>2 together", shortWords + longWords, 200);
        Checks.isTrue("both happen", shortWords > 0 && longWords > 0);
        Checks.dueEquation("randomChecks", x, "X=Y");
    }
}
