import java.util.Random;

/** Runs of random calls, each answered by the class and by the model of the document. */
public final class RandomRunsTest {
    private static final int RUNS = 1000;
    // A step makes less than 70 calls, and an object answers 512.
    private static final int CALLS = 440;
    private static final int[] ODD = {-1, Integer.MIN_VALUE, Integer.MAX_VALUE, 4, 5, 13, 63, 256};

    private final Random random;
    private final WordEquations real = new WordEquations();
    private final Model model = new Model();
    private final boolean livesLong;
    private final StringBuilder calls = new StringBuilder();
    private int made = 0;

    private RandomRunsTest(long seed) {
        random = new Random(seed);
        livesLong = random.nextInt(3) > 0;
    }

    public static void main(String[] args) {
        for (int run = 0; run < RUNS; run++) {
            RandomRunsTest test = new RandomRunsTest(run);
            while (test.made < CALLS && test.step()) {
            }
        }
        Checks.finish();
    }

    private boolean same(String call, int got, int want) {
        made++;
        calls.append(call).append(" = ").append(want).append("; ");
        if (got != want) {
            Checks.due(calls.toString(), got, want);
        }
        return got == want;
    }

    /** Mostly a number from 0 to most, sometimes one that no method takes. */
    private int number(int most) {
        return random.nextInt(12) == 0 ? ODD[random.nextInt(ODD.length)] : random.nextInt(most + 1);
    }

    private String symbols(int most, String from) {
        StringBuilder side = new StringBuilder();
        for (int n = random.nextInt(most + 1); n > 0; n--) {
            side.append(from.charAt(random.nextInt(from.length())));
        }
        return side.toString();
    }

    private String equationText() {
        String[] alphabets = {"abWXYZ", "abXY", "aX", "abWXYZ", "WXYZ", "abX", "aabbXYZ"};
        String from = alphabets[random.nextInt(alphabets.length)];
        StringBuilder text = new StringBuilder(symbols(8, from)).append('=').append(symbols(8, from));
        for (int n = random.nextInt(3) == 0 ? random.nextInt(5) : 0; n > 0; n--) {
            text.append(';').append("WXYZ".charAt(random.nextInt(4))).append("<=>".charAt(random.nextInt(3)));
            text.append((char) ('0' + (random.nextInt(3) == 0 ? random.nextInt(10) : random.nextInt(4))));
        }
        return text.toString();
    }

    /** Takes away, puts in or changes one character. */
    private String spoiled(String text) {
        int at = random.nextInt(text.length() + 1);
        int behind = Math.min(text.length(), at + random.nextInt(2));
        String odd = "ab=;<>WXYZ09 " + (char) 0 + (char) 233 + (char) random.nextInt(256);
        String put = random.nextBoolean() ? "" : String.valueOf(odd.charAt(random.nextInt(odd.length())));
        return text.substring(0, at) + put + text.substring(behind);
    }

    private boolean typed(String text) {
        boolean same = same("clearText()", real.clearText(), model.clearText());
        for (char c : text.toCharArray()) {
            same &= same("append(" + (int) c + ")", real.append(c), model.append(c));
        }
        return same;
    }

    private boolean step() {
        // In most runs a loaded equation lives long, so that the memory of actions fills and sides grow.
        if (made == 0 || random.nextInt(livesLong ? 40 : 8) == 0) {
            String text = equationText();
            return typed(random.nextInt(4) == 0 ? spoiled(text) : text) && textCall() && loadCall();
        }
        switch (random.nextInt(9)) {
            case 0:
                return random.nextBoolean() ? textCall() : typed(symbols(4, "abWXYZ")) && substituteCall();
            case 1:
                return readingCall();
            case 2:
            case 3:
                return actionCall();
            case 4:
            case 5:
                return boundedCall();
            case 6:
                return searchCall();
            case 7:
                return random.nextInt(3) == 0 ? randomChecksCall() : scriptCall();
            default:
                return random.nextInt(3) == 0 ? undoCall() : slotCall();
        }
    }

    private boolean loadCall() {
        return same("load()", real.load(), model.load());
    }

    private boolean textCall() {
        if (random.nextInt(4) == 0) {
            int c = random.nextBoolean() ? number(255) : "ab=W".charAt(random.nextInt(4));
            return same("append(" + c + ")", real.append(c), model.append(c));
        }
        return same("errorPosition()", real.errorPosition(), model.errorPosition());
    }

    private boolean readingCall() {
        int side = number(1);
        int i = number(12);
        int variable = number(3);
        return same("sideLength(" + side + ")", real.sideLength(side), model.sideLength(side))
                && same("symbolAt(" + side + ", " + i + ")", real.symbolAt(side, i), model.symbolAt(side, i))
                && same("occurrences(" + side + ", " + variable + ")", real.occurrences(side, variable),
                        model.occurrences(side, variable));
    }

    private boolean substituteCall() {
        int variable = number(3);
        return same("substitute(" + variable + ")", real.substitute(variable), model.substitute(variable))
                && wholeEquation();
    }

    private boolean actionCall() {
        int variable = number(3);
        boolean same;
        switch (random.nextInt(6)) {
            case 0:
                same = same("swapSides()", real.swapSides(), model.swapSides());
                break;
            case 1:
                same = same("reverse()", real.reverse(), model.reverse());
                break;
            case 2:
                same = same("cancel()", real.cancel(), model.cancel());
                break;
            case 3:
                same = same("exchangeLetters()", real.exchangeLetters(), model.exchangeLetters());
                break;
            case 4:
                same = same("eliminate(" + variable + ")", real.eliminate(variable), model.eliminate(variable));
                break;
            default:
                same = substituteCall();
        }
        return same && wholeEquation();
    }

    private boolean undoCall() {
        return same("undo()", real.undo(), model.undo()) && wholeEquation();
    }

    private boolean wholeEquation() {
        for (int side = 0; side < 2; side++) {
            for (int i = 0; i < model.sideLength(side); i++) {
                made++;
                if (real.symbolAt(side, i) != model.symbolAt(side, i)) {
                    return same("symbolAt(" + side + ", " + i + ")", real.symbolAt(side, i), model.symbolAt(side, i));
                }
            }
        }
        made += 2;
        return real.sideLength(0) == model.sideLength(0) && real.sideLength(1) == model.sideLength(1)
                || same("sideLength(0)", real.sideLength(0), model.sideLength(0))
                && same("sideLength(1)", real.sideLength(1), model.sideLength(1));
    }

    private boolean boundedCall() {
        // The model goes through every assignment: the bound 3 is asked less often.
        int bound = random.nextInt(5) == 0 ? number(3) : number(2);
        int variable = number(3);
        int w = number(random.nextBoolean() ? 62 : 3);
        int x = number(random.nextBoolean() ? 62 : 3);
        int y = number(random.nextBoolean() ? 62 : 3);
        int z = number(random.nextBoolean() ? 62 : 3);
        int wide = number(9);
        switch (random.nextInt(6)) {
            case 0:
                return same("countSolutions(" + bound + ")", real.countSolutions(bound), model.countSolutions(bound));
            case 1:
                return same("firstSolution(" + bound + ", " + variable + ")", real.firstSolution(bound, variable),
                        model.firstSolution(bound, variable));
            case 2:
                return same("leastTotalLength(" + bound + ")", real.leastTotalLength(bound),
                        model.leastTotalLength(bound));
            case 3:
                return same("countLengths(" + wide + ")", real.countLengths(wide), model.countLengths(wide));
            case 4:
                return same("refutedByCounting()", real.refutedByCounting(), model.refutedByCounting());
            default:
                return same("satisfies(" + w + ", " + x + ", " + y + ", " + z + ")", real.satisfies(w, x, y, z),
                        model.satisfies(w, x, y, z));
        }
    }

    private boolean searchCall() {
        int variable = number(3);
        int i = number(Math.max(1, real.proofLength()));
        int letter = number(Math.max(1, real.witnessLength(variable)));
        made += 2;
        return same("decide()", real.decide(), model.decide())
                && same("nodeCount()", real.nodeCount(), model.nodeCount())
                && same("proofLength()", real.proofLength(), model.proofLength())
                && same("proofRule(" + i + ")", real.proofRule(i), model.proofRule(i))
                && same("witnessLength(" + variable + ")", real.witnessLength(variable),
                        model.witnessLength(variable))
                && same("witnessLetter(" + variable + ", " + letter + ")", real.witnessLetter(variable, letter),
                        model.witnessLetter(variable, letter));
    }

    private long command() {
        long[] likely = {100, 200, 300, 400, 410, 420, 430, 101, 401, 700, 701, 702, 710, 601, 600};
        switch (random.nextInt(4)) {
            case 0:
                return random.nextInt(1000);
            case 1:
                return 500 + 10 * random.nextInt(3) + random.nextInt(10);
            case 2:
                return 800 + 10 * random.nextInt(5) + random.nextInt(4);
            default:
                return likely[random.nextInt(likely.length)];
        }
    }

    private boolean scriptCall() {
        int n = random.nextInt(4) + 1;
        long script = 0;
        for (int i = 0; i < n; i++) {
            script = script * 1000 + command();
        }
        if (random.nextInt(10) == 0) {
            n = number(5);
            script = random.nextBoolean() ? script : random.nextLong();
        }
        return same("runScript(" + n + ", " + script + ")", real.runScript(n, script), model.runScript(n, script));
    }

    private boolean randomChecksCall() {
        long seed = random.nextLong();
        int m = number(200);
        return same("randomChecks(" + seed + ", " + m + ")", real.randomChecks(seed, m), model.randomChecks(seed, m));
    }

    private boolean slotCall() {
        int slot = number(1);
        boolean same = random.nextBoolean()
                ? same("save(" + slot + ")", real.save(slot), model.save(slot))
                : same("restore(" + slot + ")", real.restore(slot), model.restore(slot));
        return same && wholeEquation();
    }
}
