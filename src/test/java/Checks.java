/** Collects the answers that are not due, for the tests of the project. */
final class Checks {
    private static int wrong = 0;

    private Checks() {
    }

    static void due(String call, long got, long want) {
        if (got != want) {
            wrong++;
            System.out.println(call + " answered " + got + ", due is " + want);
        }
    }

    static void isTrue(String claim, boolean holds) {
        if (!holds) {
            wrong++;
            System.out.println("not so: " + claim);
        }
    }

    /** Empties the text buffer and appends the characters of a text. */
    static void type(WordEquations x, String text) {
        x.clearText();
        for (char c : text.toCharArray()) {
            x.append(c);
        }
    }

    /** A new object with the equation of the text. */
    static WordEquations loaded(String text) {
        WordEquations x = new WordEquations();
        type(x, text);
        isTrue(text + " is loaded", x.load() >= 0);
        return x;
    }

    /**
     * A new object with two sides of up to 12 symbols, more than a text can tell: each side is put for a variable,
     * so that two actions are remembered. One of the sides leaves a variable out.
     */
    static WordEquations of(String left, String right) {
        int free = unusedIn(left);
        boolean leftFirst = free >= 0;
        free = leftFirst ? free : unusedIn(right);
        if (free < 0) {
            throw new IllegalArgumentException("both sides use every variable: " + left + "=" + right);
        }
        int other = free == 0 ? 1 : 0;
        WordEquations x = loaded("WXYZ".charAt(leftFirst ? other : free) + "="
                + "WXYZ".charAt(leftFirst ? free : other));
        type(x, leftFirst ? left : right);
        x.substitute(other);
        type(x, leftFirst ? right : left);
        x.substitute(free);
        dueEquation("building it", x, left + "=" + right);
        return x;
    }

    private static int unusedIn(String side) {
        for (int variable = 0; variable < 4; variable++) {
            if (side.indexOf("WXYZ".charAt(variable)) < 0) {
                return variable;
            }
        }
        return -1;
    }

    /** What is just outside of low to high, and what is far outside. */
    static int[] outside(int low, int high) {
        return new int[] {low - 1, high + 1, Integer.MIN_VALUE, Integer.MAX_VALUE};
    }

    /** Both sides as they are read through symbolAt, with = between them. */
    static String shown(WordEquations x) {
        StringBuilder shown = new StringBuilder();
        for (int side = 0; side < 2; side++) {
            int length = x.sideLength(side);
            for (int i = 0; i < length; i++) {
                shown.append((char) x.symbolAt(side, i));
            }
            shown.append(side == 0 ? "=" : "");
        }
        return shown.toString();
    }

    static void dueEquation(String after, WordEquations x, String want) {
        String got = shown(x);
        isTrue("after " + after + " the equation is " + want + ", not " + got, got.equals(want));
    }

    static String proof(WordEquations x) {
        StringBuilder rules = new StringBuilder();
        int length = x.proofLength();
        for (int i = 0; i < length; i++) {
            rules.append(x.proofRule(i));
        }
        return rules.toString();
    }

    static String witness(WordEquations x, int variable) {
        StringBuilder word = new StringBuilder();
        int length = x.witnessLength(variable);
        for (int i = 0; i < length; i++) {
            word.append((char) x.witnessLetter(variable, i));
        }
        return word.toString();
    }

    static void finish() {
        System.out.println(wrong == 0 ? "all answers are as due" : wrong + " answers are not as due");
        if (wrong != 0) {
            System.exit(1);
        }
    }
}
