/** Promises 22 to 27: decide, nodeCount, proofLength, proofRule, witnessLength, witnessLetter. */
public final class SearchTest {
    public static void main(String[] args) {
        satisfiable();
        unsatisfiable();
        unknown();
        orderOfRules();
        lengthConstraintsAreIgnored();
        sidesOfTwelveSymbols();
        errors();
        noProof();
        longestWitness();
        witnessThatIsTooLong();
        searchChangesNothing();
        searchBeginsAnew();
        likeTheModel();
        Checks.finish();
    }

    private static void dueSearch(String text, int answer, int nodes, String proof) {
        WordEquations x = Checks.loaded(text);
        Checks.due(text + ": decide()", x.decide(), answer);
        Checks.due(text + ": nodeCount()", x.nodeCount(), nodes);
        Checks.due(text + ": proofLength()", x.proofLength(), proof == null ? -9 : proof.length());
        if (proof != null) {
            Checks.isTrue(text + " has the proof " + proof + ", not " + Checks.proof(x),
                    proof.equals(Checks.proof(x)));
        }
    }

    private static void dueWitness(String text, String... words) {
        WordEquations x = Checks.loaded(text);
        for (int variable = 0; variable < 4; variable++) {
            Checks.due(text + ": witnessLength(" + variable + ")", x.witnessLength(variable),
                    words[variable].length());
            Checks.isTrue(text + " has the word " + words[variable] + " of variable " + variable,
                    words[variable].equals(Checks.witness(x, variable)));
        }
    }

    private static void satisfiable() {
        dueSearch("=", 1, 1, "");
        dueSearch("ab=ab", 1, 3, "00");
        dueSearch("X=", 1, 2, "1");
        dueSearch("=X", 1, 2, "2");
        dueSearch("X=X", 1, 2, "0");
        dueSearch("X=a", 1, 4, "31");
        dueSearch("a=X", 1, 4, "42");
        dueSearch("X=ab", 1, 6, "331");
        dueSearch("X=Y", 1, 4, "12");
        dueSearch("Xa=aX", 1, 3, "10");
        dueWitness("X=ab", "", "ab", "", "");
        dueWitness("aab=Z", "", "", "", "aab");
        dueWitness("X=Y", "", "", "", "");
        dueWitness("Wb=abYb", "ab", "", "", "");
    }

    private static void unsatisfiable() {
        dueSearch("a=b", 0, 1, null);
        dueSearch("a=", 0, 1, null);
        dueSearch("=b", 0, 1, null);
        dueSearch("ab=aa", 0, 2, null);
        dueSearch("Xa=bX", 0, 2, null);
        dueSearch("Xb=Ya", 0, 8, null);
    }

    private static void unknown() {
        dueSearch("XaX=bXY", 2, 20, null);
        WordEquations x = Checks.loaded("XYZW=WZYX");
        Checks.type(x, "WXYZab");
        x.substitute(0);
        Checks.due("200 nodes: decide()", x.decide(), 2);
        Checks.due("200 nodes: nodeCount()", x.nodeCount(), 200);
        Checks.due("200 nodes: proofLength()", x.proofLength(), -9);
    }

    /** Rule 1 goes before 2, 3 and 4: with the first of them that leads to the end the proof begins. */
    private static void orderOfRules() {
        dueSearch("XY=YX", 1, 4, "10");
        dueSearch("aX=Ya", 1, 7, "201");
    }

    private static void lengthConstraintsAreIgnored() {
        dueSearch("X=a;X=0", 1, 4, "31");
        dueWitness("X=a;X=0;W>3", "", "a", "", "");
    }

    /** A child of 12 symbols is a node, a child of 13 symbols is dropped. */
    private static void sidesOfTwelveSymbols() {
        WordEquations x = Checks.loaded("Xaaaaaa=b");
        Checks.type(x, "XX");
        x.substitute(1);
        Checks.dueEquation("substitute(1)", x, "XXaaaaaa=b");
        Checks.due("XXaaaaaa=b: decide()", x.decide(), 0);
        Checks.due("XXaaaaaa=b: nodeCount()", x.nodeCount(), 4);
        dueLongRightSide(9, 0);
        dueLongRightSide(10, 2);
        x = Checks.loaded("XXY=b");
        Checks.type(x, "aaaaaaaaa");
        x.substitute(2);
        Checks.due("11 symbols, child of 12: decide()", x.decide(), 0);
        x = Checks.loaded("XXY=b");
        Checks.type(x, "aaaaaaaaaa");
        x.substitute(2);
        Checks.due("12 symbols, child of 13: decide()", x.decide(), 2);
        Checks.due("12 symbols, child of 13: nodeCount()", x.nodeCount(), 2);
        x.swapSides();
        Checks.due("the same on the right: decide()", x.decide(), 2);
        Checks.due("the same on the right: nodeCount()", x.nodeCount(), 2);
    }

    /** XX = b and n times a: after n + 1 rules 3 the left side is X b, n times a, X. */
    private static void dueLongRightSide(int n, int answer) {
        WordEquations x = Checks.loaded("XX=bW");
        Checks.type(x, "a".repeat(n));
        x.substitute(0);
        Checks.due(Checks.shown(x) + ": decide()", x.decide(), answer);
        Checks.due(Checks.shown(x) + ": nodeCount()", x.nodeCount(), 22);
    }

    private static void errors() {
        WordEquations x = Checks.loaded("X=ab");
        for (int bad : new int[] {-1, 3, Integer.MIN_VALUE, Integer.MAX_VALUE}) {
            Checks.due("proofRule(" + bad + ")", x.proofRule(bad), -1);
        }
        for (int bad : new int[] {-1, -2, 4, Integer.MIN_VALUE, Integer.MAX_VALUE}) {
            Checks.due("witnessLength(" + bad + ")", x.witnessLength(bad), -1);
            Checks.due("witnessLetter(" + bad + ", 0)", x.witnessLetter(bad, 0), -1);
        }
        Checks.due("witnessLetter(1, 0)", x.witnessLetter(1, 0), 'a');
        Checks.due("witnessLetter(1, 1)", x.witnessLetter(1, 1), 'b');
        for (int bad : new int[] {-1, 2, 60, 64, Integer.MIN_VALUE, Integer.MAX_VALUE}) {
            Checks.due("witnessLetter(1, " + bad + ")", x.witnessLetter(1, bad), -9);
        }
        Checks.due("witnessLetter(0, 0)", x.witnessLetter(0, 0), -9);
        Checks.due("witnessLetter(4, 9)", x.witnessLetter(4, 9), -1);
    }

    private static void noProof() {
        for (String text : new String[] {"a=b", "XaX=bXY"}) {
            WordEquations x = Checks.loaded(text);
            Checks.due(text + ": proofLength()", x.proofLength(), -9);
            Checks.due(text + ": proofRule(0)", x.proofRule(0), -9);
            Checks.due(text + ": proofRule(-1), NONE goes before", x.proofRule(-1), -9);
            Checks.due(text + ": witnessLength(1)", x.witnessLength(1), -9);
            Checks.due(text + ": witnessLength(4), NO_SUCH_INDEX goes before", x.witnessLength(4), -1);
            Checks.due(text + ": witnessLetter(1, 0)", x.witnessLetter(1, 0), -9);
            Checks.due(text + ": witnessLetter(-1, 0), NO_SUCH_INDEX goes before", x.witnessLetter(-1, 0), -1);
        }
    }

    /** W must be bababb, so that ten more of it, 60 letters, are the word of X. */
    private static void longestWitness() {
        WordEquations x = Checks.loaded("W=Xbababb");
        Checks.type(x, "WWWWWWWWWWW");
        x.substitute(0);
        Checks.due("60 letters: decide()", x.decide(), 1);
        Checks.due("60 letters: nodeCount()", x.nodeCount(), 185);
        Checks.isTrue("W is bababb", Checks.witness(x, 0).equals("bababb"));
        Checks.isTrue("X is W ten times", Checks.witness(x, 1).equals("bababb".repeat(10)));
        Checks.due("witnessLetter(1, 59)", x.witnessLetter(1, 59), 'b');
        Checks.due("witnessLetter(1, 60)", x.witnessLetter(1, 60), -9);
    }

    /** One letter more than in the longest witness. */
    private static void witnessThatIsTooLong() {
        WordEquations x = Checks.loaded("bW=Xbababb");
        Checks.type(x, "WWWWWWWWWWW");
        x.substitute(0);
        Checks.due("61 letters: decide()", x.decide(), 1);
        Checks.isTrue("61 letters: there is a proof", x.proofLength() > 0);
        for (int variable = 0; variable < 4; variable++) {
            Checks.due("61 letters: witnessLength(" + variable + ")", x.witnessLength(variable), -9);
            Checks.due("61 letters: witnessLetter(" + variable + ", 0)", x.witnessLetter(variable, 0), -9);
        }
        Checks.due("61 letters: witnessLength(4)", x.witnessLength(4), -1);
        Checks.due("61 letters: proofRule(0)", x.proofRule(0), 4);
    }

    private static void searchChangesNothing() {
        WordEquations x = Checks.loaded("Xa=Yb;X=2");
        for (int i = 0; i < 2; i++) {
            x.decide();
            x.nodeCount();
            x.proofLength();
            x.proofRule(0);
            x.witnessLength(1);
            x.witnessLetter(1, 0);
            Checks.dueEquation("the search", x, "Xa=Yb");
        }
        Checks.due("the search is no action: undo()", x.undo(), -3);
        x.cancel();
        x.eliminate(1);
        Checks.due("the search is made anew after an action", x.nodeCount(), 4);
    }

    /** Nothing of an earlier search or of an earlier assignment is left. */
    private static void searchBeginsAnew() {
        WordEquations x = Checks.loaded("XaX=bXY");
        Checks.due("XaX=bXY: decide()", x.decide(), 2);
        Checks.type(x, "a=b");
        x.load();
        Checks.due("a=b after it: decide()", x.decide(), 0);
        Checks.type(x, "X=ab");
        x.load();
        x.satisfies(62, 62, 62, 62);
        Checks.due("X=ab after satisfies: witnessLength(0)", x.witnessLength(0), 0);
        Checks.due("X=ab after satisfies: witnessLength(1)", x.witnessLength(1), 2);
        Checks.due("X=ab after satisfies: witnessLength(3)", x.witnessLength(3), 0);
        Checks.type(x, "X=b");
        x.load();
        Checks.due("X=b after it: decide()", x.decide(), 1);
        Checks.due("X=b after it: nodeCount()", x.nodeCount(), 4);
        Checks.due("X=b after it: witnessLength(1)", x.witnessLength(1), 1);
    }

    private static void likeTheModel() {
        String[] texts = {"XabY=YbaX", "bZaaWYYY=WWWabWWb", "YaZYbYaY=bXaXXXXX", "Zbbbaba=bXXbaXXX", "WaaZ=WYZW",
            "aZZZaYZY=aZYabbaX", "XYZW=WZYX", "WXaYZ=bZYXW", "XXYY=aabb", "abXcX=".replace("c", "a") + "XbaX"};
        String[] replacements = {null, "Xa", "abY", "WZZ"};
        for (String text : texts) {
            for (String replacement : replacements) {
                for (int variable = 0; variable < (replacement == null ? 1 : 4); variable++) {
                    compare(text, replacement, variable);
                }
            }
        }
    }

    private static void compare(String text, String replacement, int variable) {
        WordEquations x = Checks.loaded(text);
        Model model = new Model();
        text.chars().forEach(model::append);
        model.load();
        if (replacement != null) {
            Checks.type(x, replacement);
            model.clearText();
            replacement.chars().forEach(model::append);
            x.substitute(variable);
            model.substitute(variable);
        }
        String name = Checks.shown(x);
        Checks.due(name + ": decide()", x.decide(), model.decide());
        Checks.due(name + ": nodeCount()", x.nodeCount(), model.nodeCount());
        Checks.due(name + ": proofLength()", x.proofLength(), model.proofLength());
        for (int i = 0; i <= model.proofLength(); i++) {
            Checks.due(name + ": proofRule(" + i + ")", x.proofRule(i), model.proofRule(i));
        }
        for (int v = 0; v < 4; v++) {
            Checks.due(name + ": witnessLength(" + v + ")", x.witnessLength(v), model.witnessLength(v));
            for (int i = 0; i <= model.witnessLength(v); i++) {
                Checks.due(name + ": witnessLetter(" + v + ", " + i + ")", x.witnessLetter(v, i),
                        model.witnessLetter(v, i));
            }
        }
    }
}
