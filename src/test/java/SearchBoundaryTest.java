/**
 * The boundary cases of NIELSEN TRANSFORMATIONS and of the promises 22 to 27. Each test stands under the sentence of
 * the document that it holds to.
 */
public final class SearchBoundaryTest {
    public static void main(String[] args) {
        constraintsAreIgnored();
        solvedIsBothSidesEmpty();
        sameHeadsAllowOneRuleOnly();
        rulesWithAnEmptySide();
        rulesThreeAndFourNeedAHead();
        everyOccurrenceIsReplaced();
        letterAgainstLetter();
        childOfTwelveOrThirteenSymbols();
        childTooLongOnTheOtherSide();
        shorterSideOfAFullEquation();
        twoHundredNodes();
        oneNodeTooMany();
        solvedAsTheLastNode();
        solvedOneNodeTooLate();
        childThatIsEqualToANode();
        endsWithTheSolvedNode();
        droppedAndYetSolved();
        droppedAndTheNextSearch();
        firstQuestionOfTheSearch();
        emptyProof();
        indicesOfAProof();
        noProof();
        witnessAtRuleZero();
        witnessOfUnusedVariables();
        indicesOfAWitness();
        witnessOfSixtyLetters();
        witnessOfSixtyOneLetters();
        witnessThatJumpsOverSixty();
        orderOfErrors();
        Checks.finish();
    }

    private static void dueSearch(WordEquations x, int answer, int nodes, String proof) {
        String name = Checks.shown(x);
        Checks.due(name + ": decide()", x.decide(), answer);
        Checks.due(name + ": nodeCount()", x.nodeCount(), nodes);
        Checks.due(name + ": proofLength()", x.proofLength(), proof == null ? WordEquations.NONE : proof.length());
        if (proof != null) {
            Checks.isTrue(name + " has the proof " + proof + ", not " + Checks.proof(x),
                    proof.equals(Checks.proof(x)));
        }
    }

    private static void dueSearch(String text, int answer, int nodes, String proof) {
        dueSearch(Checks.loaded(text), answer, nodes, proof);
    }

    /** "The search ignores the length constraints": also those that nothing satisfies. */
    private static void constraintsAreIgnored() {
        dueSearch("X=a;X<0", WordEquations.SATISFIABLE, 4, "31");
        dueSearch("X=a;X>9;X<0;W>9;X=0", WordEquations.SATISFIABLE, 4, "31");
        dueSearch("=;W<0", WordEquations.SATISFIABLE, 1, "");
        Checks.due("X=a;X<0: witnessLength(1)", Checks.loaded("X=a;X<0").witnessLength(1), 1);
    }

    /** "An equation with two empty sides is solved": one empty side is not enough. */
    private static void solvedIsBothSidesEmpty() {
        dueSearch("=", WordEquations.SATISFIABLE, 1, "");
        dueSearch("a=", WordEquations.UNSATISFIABLE, 1, null);
        dueSearch("=a", WordEquations.UNSATISFIABLE, 1, null);
        dueSearch("X=", WordEquations.SATISFIABLE, 2, "1");
        dueSearch("=X", WordEquations.SATISFIABLE, 2, "2");
        dueSearch("a=a", WordEquations.SATISFIABLE, 2, "0");
    }

    /** "Rule 0, only if both sides have the same head ... Then no other rule applies": not to variables, either. */
    private static void sameHeadsAllowOneRuleOnly() {
        dueSearch("Xa=Xb", WordEquations.UNSATISFIABLE, 2, null);
        dueSearch("Xa=X", WordEquations.UNSATISFIABLE, 2, null);
        dueSearch("X=Xa", WordEquations.UNSATISFIABLE, 2, null);
        dueSearch("WXYZ=WXYZ", WordEquations.SATISFIABLE, 5, "0000");
        dueSearch(Checks.of("aaaaaaaaaaaa", "aaaaaaaaaaaa"), WordEquations.SATISFIABLE, 13, "000000000000");
        dueSearch(Checks.of("aaaaaaaaaaaa", "aaaaaaaaaaa"), WordEquations.UNSATISFIABLE, 12, null);
        dueSearch(Checks.of("aaaaaaaaaaaa", "aaaaaaaaaaab"), WordEquations.UNSATISFIABLE, 12, null);
    }

    /** "Rule 1, if the head of the left side is a variable", "Rule 2": the other side may be empty. */
    private static void rulesWithAnEmptySide() {
        for (String name : new String[] {"W", "X", "Y", "Z"}) {
            dueSearch(name + "=", WordEquations.SATISFIABLE, 2, "1");
            dueSearch("=" + name, WordEquations.SATISFIABLE, 2, "2");
            dueSearch(Checks.of(name.repeat(12), ""), WordEquations.SATISFIABLE, 2, "1");
            dueSearch(Checks.of("", name.repeat(12)), WordEquations.SATISFIABLE, 2, "2");
            dueSearch(name + "a=", WordEquations.UNSATISFIABLE, 2, null);
            dueSearch("=" + name + "a", WordEquations.UNSATISFIABLE, 2, null);
        }
        dueSearch("WXYZ=", WordEquations.SATISFIABLE, 5, "1111");
        dueSearch("=WXYZ", WordEquations.SATISFIABLE, 5, "2222");
    }

    /** "Rule 3, if the head of the left side is a variable V and the right side has a head t", and rule 4. */
    private static void rulesThreeAndFourNeedAHead() {
        dueSearch("Xb=", WordEquations.UNSATISFIABLE, 2, null);
        dueSearch("=Xb", WordEquations.UNSATISFIABLE, 2, null);
        dueSearch("Xb=b", WordEquations.SATISFIABLE, 4, "10");
        dueSearch("b=Xb", WordEquations.SATISFIABLE, 4, "20");
        dueSearch("Xb=a", WordEquations.UNSATISFIABLE, 4, null);
        dueSearch("a=Xb", WordEquations.UNSATISFIABLE, 4, null);
    }

    /** "every occurrence of V on both sides is replaced by t followed by V", and all occurrences are removed. */
    private static void everyOccurrenceIsReplaced() {
        dueSearch("XX=aa", WordEquations.SATISFIABLE, 6, "310");
        Checks.isTrue("XX=aa: the witness is a", Checks.witness(Checks.loaded("XX=aa"), 1).equals("a"));
        dueSearch("aXa=XaX", WordEquations.SATISFIABLE, 10, "4200");
        dueSearch(Checks.of("XXXXXXXXXXXX", "a"), WordEquations.UNKNOWN, 2, null);
        dueSearch("XaX=Xb", WordEquations.UNSATISFIABLE, 2, null);
    }

    /** Two letters that are not the same have no rule. */
    private static void letterAgainstLetter() {
        dueSearch("a=b", WordEquations.UNSATISFIABLE, 1, null);
        dueSearch("aX=bX", WordEquations.UNSATISFIABLE, 1, null);
        dueSearch(Checks.of("aXXXXXXXXXXX", "bXXXXXXXXXXX"), WordEquations.UNSATISFIABLE, 1, null);
    }

    /** "A child is dropped if one of its sides has more than 12 symbols": 12 are kept, 13 are not. */
    private static void childOfTwelveOrThirteenSymbols() {
        for (int letters = 1; letters <= 10; letters++) {
            boolean dropped = letters == 10;
            WordEquations x = Checks.of("XX" + "a".repeat(letters), "b");
            dueSearch(x, dropped ? WordEquations.UNKNOWN : WordEquations.UNSATISFIABLE, dropped ? 2 : 4, null);
            x = Checks.of("b", "XX" + "a".repeat(letters));
            dueSearch(x, dropped ? WordEquations.UNKNOWN : WordEquations.UNSATISFIABLE, dropped ? 2 : 4, null);
        }
        dueSearch(Checks.of("XXXaaaaaaaa", "b"), WordEquations.UNKNOWN, 2, null);
        dueSearch(Checks.of("XXXaaaaaaa", "b"), WordEquations.UNSATISFIABLE, 4, null);
    }

    /** The same sentence: rule 3 may make the right side too long, and rule 4 the left side. */
    private static void childTooLongOnTheOtherSide() {
        dueSearch(Checks.of("X", "bXXaaaaaaaaa"), WordEquations.UNKNOWN, 2, null);
        dueSearch(Checks.of("X", "bXXaaaaaaaa"), WordEquations.UNKNOWN, 4, null);
        dueSearch(Checks.of("X", "bXXaaaaaaa"), WordEquations.UNKNOWN, 6, null);
        dueSearch(Checks.of("bXXaaaaaaaaa", "X"), WordEquations.UNKNOWN, 2, null);
        dueSearch(Checks.of("bXXaaaaaaaa", "X"), WordEquations.UNKNOWN, 4, null);
        dueSearch(Checks.of("bXXaaaaaaa", "X"), WordEquations.UNKNOWN, 6, null);
    }

    /** The same sentence: a full side that does not grow is no reason to drop a child. */
    private static void shorterSideOfAFullEquation() {
        dueSearch(Checks.of("Xaaaaaaaaaaa", "b"), WordEquations.UNSATISFIABLE, 4, null);
        dueSearch(Checks.of("X", "aaaaaaaaaaaa"), WordEquations.SATISFIABLE, 26, "3".repeat(12) + "1");
        dueSearch(Checks.of("aaaaaaaaaaaa", "X"), WordEquations.SATISFIABLE, 26, "4".repeat(12) + "2");
        dueSearch(Checks.of("Xbbbbbbbbbbb", "bbbbbbbbbbbX"), WordEquations.SATISFIABLE, 13, "1" + "0".repeat(11));
    }

    /** "or if there are 200 nodes already and the child is not equal to a node": a known child is not dropped. */
    private static void twoHundredNodes() {
        dueSearch("baXX=ZYbYZ", WordEquations.UNSATISFIABLE, 199, null);
        dueSearch("aYYZZ=XbX", WordEquations.UNSATISFIABLE, 200, null);
        dueSearch("aZZX=XYbY", WordEquations.UNSATISFIABLE, 200, null);
        dueSearch("XWaW=YYbX", WordEquations.UNSATISFIABLE, 200, null);
        dueSearch("YX=bXZYY", WordEquations.UNKNOWN, 200, null);
    }

    /** The same sentence: one node more than 200 would be needed. */
    private static void oneNodeTooMany() {
        dueSearch("bXXXbY=ZYa", WordEquations.UNKNOWN, 200, null);
        dueSearch("bXX=ZZbWbW", WordEquations.UNKNOWN, 200, null);
        dueSearch("XY=aYWWaZX", WordEquations.UNKNOWN, 200, null);
    }

    /** "The search ends as soon as there is a solved node": the two hundredth may be it. */
    private static void solvedAsTheLastNode() {
        dueSolved("XYX=WZZYa", 199);
        dueSolved("WaYZ=XXbX", 200);
        dueSolved("XYY=ZWXWb", 200);
        dueSolved("aYYb=XXbX", 200);
    }

    private static void dueSolved(String text, int nodes) {
        WordEquations x = Checks.loaded(text);
        Checks.due(text + ": decide()", x.decide(), WordEquations.SATISFIABLE);
        Checks.due(text + ": nodeCount()", x.nodeCount(), nodes);
        Checks.isTrue(text + ": proofLength()", x.proofLength() > 0);
        int[] numbers = new int[4];
        for (int variable = 0; variable < 4; variable++) {
            for (char letter : Checks.witness(x, variable).toCharArray()) {
                numbers[variable] = 2 * numbers[variable] + (letter == 'a' ? 1 : 2);
            }
        }
        Checks.due(text + ": the witness satisfies it", x.satisfies(numbers[0], numbers[1], numbers[2], numbers[3]), 1);
    }

    /** "A child is dropped if ... there are 200 nodes already": a solved child, too. */
    private static void solvedOneNodeTooLate() {
        for (String text : new String[] {"XXbY=YaZX", "XYXX=YZWb", "WbXW=bXZaX", "ZZYZ=XaYY"}) {
            dueSearch(text, WordEquations.UNKNOWN, 200, null);
            WordEquations x = Checks.loaded(text);
            Checks.due(text + ": proofRule(0)", x.proofRule(0), WordEquations.NONE);
            Checks.due(text + ": witnessLength(1)", x.witnessLength(1), WordEquations.NONE);
        }
    }

    /** "A child that is equal to a node (both sides are equal) is ignored": it is no reason for UNKNOWN. */
    private static void childThatIsEqualToANode() {
        dueSearch("Xa=bX", WordEquations.UNSATISFIABLE, 2, null);
        dueSearch("Xb=aX", WordEquations.UNSATISFIABLE, 2, null);
        dueSearch("Xaa=bX", WordEquations.UNSATISFIABLE, 2, null);
        dueSearch("XY=YXa", WordEquations.UNSATISFIABLE, 4, null);
    }

    /** "The search ends as soon as there is a solved node": amid the children of an equation, too. */
    private static void endsWithTheSolvedNode() {
        dueSearch("XYZ=XYZ", WordEquations.SATISFIABLE, 4, "000");
        dueSearch("X=Y", WordEquations.SATISFIABLE, 4, "12");
        dueSearch("XX=X", WordEquations.SATISFIABLE, 3, "01");
        dueSearch("XY=", WordEquations.SATISFIABLE, 3, "11");
        dueSearch("X=YY", WordEquations.SATISFIABLE, 6, "12");
    }

    /** "The answer is SATISFIABLE if there is a solved node": a child that was dropped before does not matter. */
    private static void droppedAndYetSolved() {
        WordEquations x = Checks.of("XXbbbbbbbbbb", "Ybbbbbbbbbbb");
        Checks.due("a child of 13 symbols: decide()", x.decide(), WordEquations.SATISFIABLE);
        x = Checks.loaded("WXa=XXX");
        Checks.due("WXa=XXX: decide()", x.decide(), WordEquations.SATISFIABLE);
        x = Checks.loaded("WaWW=XX");
        Checks.due("WaWW=XX: decide()", x.decide(), WordEquations.SATISFIABLE);
    }

    /** "UNKNOWN if a child was dropped": in this search, not in an earlier one. */
    private static void droppedAndTheNextSearch() {
        WordEquations x = Checks.of("XXaaaaaaaaaa", "b");
        Checks.due("dropped: decide()", x.decide(), WordEquations.UNKNOWN);
        x.eliminate(1);
        Checks.due("the next search: decide()", x.decide(), WordEquations.UNSATISFIABLE);
        Checks.due("the next search: nodeCount()", x.nodeCount(), 1);
        x.undo();
        Checks.due("the first search again: decide()", x.decide(), WordEquations.UNKNOWN);
        Checks.due("the first search again: nodeCount()", x.nodeCount(), 2);
    }

    /** Each question has the answer of the present equation, without another question before it. */
    private static void firstQuestionOfTheSearch() {
        Checks.due("new: nodeCount()", new WordEquations().nodeCount(), 1);
        Checks.due("new: proofLength()", new WordEquations().proofLength(), 0);
        Checks.due("new: proofRule(0)", new WordEquations().proofRule(0), WordEquations.NO_SUCH_INDEX);
        Checks.due("new: witnessLength(0)", new WordEquations().witnessLength(0), 0);
        Checks.due("X=ab: nodeCount()", Checks.loaded("X=ab").nodeCount(), 6);
        Checks.due("X=ab: proofLength()", Checks.loaded("X=ab").proofLength(), 3);
        Checks.due("X=ab: proofRule(2)", Checks.loaded("X=ab").proofRule(2), 1);
        Checks.due("X=ab: witnessLength(1)", Checks.loaded("X=ab").witnessLength(1), 2);
        Checks.due("X=ab: witnessLetter(1, 1)", Checks.loaded("X=ab").witnessLetter(1, 1), 'b');
        WordEquations x = Checks.loaded("X=ab");
        Checks.due("before an action: nodeCount()", x.nodeCount(), 6);
        x.eliminate(1);
        Checks.due("after an action: nodeCount()", x.nodeCount(), 1);
        x.undo();
        Checks.due("after undo(): nodeCount()", x.nodeCount(), 6);
    }

    /** "the proof is the sequence of the rules on the path": of an equation that is solved already it is empty. */
    private static void emptyProof() {
        WordEquations x = new WordEquations();
        Checks.due("=: proofLength()", x.proofLength(), 0);
        for (int bad : new int[] {-1, 0, 1, Integer.MIN_VALUE, Integer.MAX_VALUE}) {
            Checks.due("=: proofRule(" + bad + ")", x.proofRule(bad), WordEquations.NO_SUCH_INDEX);
        }
        for (int variable = 0; variable < 4; variable++) {
            Checks.due("=: witnessLength(" + variable + ")", x.witnessLength(variable), 0);
            Checks.due("=: witnessLetter(" + variable + ", 0)", x.witnessLetter(variable, 0), WordEquations.NONE);
        }
    }

    /** proofRule: "Returns the rule, 0 to 4; ... NO_SUCH_INDEX" for what is not an index in the proof. */
    private static void indicesOfAProof() {
        dueProof(Checks.loaded("X=ab"), "331");
        dueProof(Checks.loaded("ab=X"), "442");
        dueProof(Checks.loaded("aX=a"), "01");
        dueProof(Checks.of("X", "aaaaaaaaaaaa"), "3333333333331");
        dueProof(Checks.of("aaaaaaaaaaaa", "aaaaaaaaaaaa"), "000000000000");
    }

    private static void dueProof(WordEquations x, String rules) {
        String name = Checks.shown(x);
        for (int i = 0; i < rules.length(); i++) {
            Checks.due(name + ": proofRule(" + i + ")", x.proofRule(i), rules.charAt(i) - '0');
        }
        for (int bad : Checks.outside(0, rules.length() - 1)) {
            Checks.due(name + ": proofRule(" + bad + ")", x.proofRule(bad), WordEquations.NO_SUCH_INDEX);
        }
    }

    /** "NONE if the answer is not SATISFIABLE": neither for UNSATISFIABLE nor for UNKNOWN. */
    private static void noProof() {
        for (String text : new String[] {"a=b", "a=", "Xa=bX", "XaX=bXY", "bXX=ZZbWbW"}) {
            WordEquations x = Checks.loaded(text);
            Checks.isTrue(text + " is not found to be satisfiable", x.decide() != WordEquations.SATISFIABLE);
            Checks.due(text + ": proofLength()", x.proofLength(), WordEquations.NONE);
            Checks.due(text + ": proofRule(0)", x.proofRule(0), WordEquations.NONE);
            for (int variable = 0; variable < 4; variable++) {
                Checks.due(text + ": witnessLength(" + variable + ")", x.witnessLength(variable), WordEquations.NONE);
                Checks.due(text + ": witnessLetter(" + variable + ", 0)", x.witnessLetter(variable, 0),
                        WordEquations.NONE);
            }
        }
    }

    /** Only the rules 1 to 4 say what a word becomes: a rule 0 leaves the word of its head as it is. */
    private static void witnessAtRuleZero() {
        for (String text : new String[] {"XX=Xab", "Xab=XX"}) {
            WordEquations x = Checks.loaded(text);
            Checks.due(text + ": proofRule(0)", x.proofRule(0), 0);
            Checks.isTrue(text + ": X is ab", Checks.witness(x, 1).equals("ab"));
        }
    }

    /** "it starts with the empty word for each variable": a variable that is not used keeps it. */
    private static void witnessOfUnusedVariables() {
        WordEquations x = Checks.loaded("X=ab;W>0");
        x.satisfies(62, 62, 62, 62);
        for (int variable : new int[] {0, 2, 3}) {
            Checks.due("X=ab: witnessLength(" + variable + ")", x.witnessLength(variable), 0);
            Checks.due("X=ab: witnessLetter(" + variable + ", 0)", x.witnessLetter(variable, 0), WordEquations.NONE);
        }
    }

    /** witnessLetter: "NONE ... if the word has no such index". */
    private static void indicesOfAWitness() {
        for (int length = 1; length <= 12; length++) {
            String word = "abbabaabbaba".substring(0, length);
            for (int variable = 0; variable < 4; variable++) {
                WordEquations x = Checks.of("" + "WXYZ".charAt(variable), word);
                Checks.due(word + ": witnessLength", x.witnessLength(variable), length);
                Checks.due(word + ": the first letter", x.witnessLetter(variable, 0), word.charAt(0));
                Checks.due(word + ": the last letter", x.witnessLetter(variable, length - 1), word.charAt(length - 1));
                for (int bad : Checks.outside(0, length - 1)) {
                    Checks.due(word + ": witnessLetter " + bad, x.witnessLetter(variable, bad), WordEquations.NONE);
                }
            }
        }
    }

    /** "The witness is too long if a word gets more than 60 letters on the way": 59 and 60 are not too many. */
    private static void witnessOfSixtyLetters() {
        dueLongWitness(Checks.of("aaaWWWWWWWWW", "Xbaaaaaa"), "baaaaaa", "aaa" + "baaaaaa".repeat(8));
        dueLongWitness(Checks.of("WWWWWWWWWWW", "Xbababb"), "bababb", "bababb".repeat(10));
        dueLongWitness(Checks.of("Xbababb", "WWWWWWWWWWW"), "bababb", "bababb".repeat(10));
    }

    private static void dueLongWitness(WordEquations x, String wordOfW, String wordOfX) {
        int length = wordOfX.length();
        Checks.due(length + " letters: decide()", x.decide(), WordEquations.SATISFIABLE);
        Checks.due(length + " letters: witnessLength(0)", x.witnessLength(0), wordOfW.length());
        Checks.due(length + " letters: witnessLength(1)", x.witnessLength(1), length);
        for (int i = 0; i < length; i++) {
            Checks.due(length + " letters: witnessLetter(1, " + i + ")", x.witnessLetter(1, i), wordOfX.charAt(i));
        }
        for (int i = 0; i < wordOfW.length(); i++) {
            Checks.due(length + " letters: witnessLetter(0, " + i + ")", x.witnessLetter(0, i), wordOfW.charAt(i));
        }
        for (int bad : Checks.outside(0, length - 1)) {
            Checks.due(length + " letters: witnessLetter(1, " + bad + ")", x.witnessLetter(1, bad), WordEquations.NONE);
        }
    }

    private static void dueTooLong(WordEquations x) {
        String name = Checks.shown(x);
        Checks.due(name + ": decide()", x.decide(), WordEquations.SATISFIABLE);
        int rules = x.proofLength();
        Checks.isTrue(name + " has a proof", rules > 0);
        Checks.isTrue(name + " has a first rule", x.proofRule(0) >= 0);
        Checks.isTrue(name + " has a last rule", x.proofRule(rules - 1) >= 0);
        Checks.due(name + ": proofRule(" + rules + ")", x.proofRule(rules), WordEquations.NO_SUCH_INDEX);
        for (int variable = 0; variable < 4; variable++) {
            Checks.due(name + ": witnessLength(" + variable + ")", x.witnessLength(variable), WordEquations.NONE);
            Checks.due(name + ": witnessLetter(" + variable + ", 0)", x.witnessLetter(variable, 0), WordEquations.NONE);
        }
    }

    /** The same sentence: 61 letters are too many, for the short words of the witness, too. */
    private static void witnessOfSixtyOneLetters() {
        dueTooLong(Checks.of("bWWWWWWWWWWW", "Xbababb"));
        dueTooLong(Checks.of("Xbababb", "bWWWWWWWWWWW"));
    }

    /** The same sentence: by the word of another variable a word of 56 letters gets 63. */
    private static void witnessThatJumpsOverSixty() {
        dueTooLong(Checks.of("WWWWWWWWWW", "Xbaaaaaa"));
        dueTooLong(Checks.of("Xbaaaaaa", "WWWWWWWWWW"));
    }

    /**
     * proofRule lists NONE before NO_SUCH_INDEX; witnessLength and witnessLetter list NO_SUCH_INDEX, for the variable,
     * before NONE.
     */
    private static void orderOfErrors() {
        WordEquations[] without = {Checks.loaded("a=b"), Checks.loaded("XaX=bXY")};
        for (WordEquations x : without) {
            for (int bad : Checks.outside(0, 0)) {
                Checks.due("no proof: proofRule(" + bad + ")", x.proofRule(bad), WordEquations.NONE);
            }
        }
        WordEquations[] all = {Checks.loaded("X=ab"), without[0], without[1], Checks.of("bWWWWWWWWWWW", "Xbababb")};
        for (WordEquations x : all) {
            for (int bad : Checks.outside(0, 3)) {
                String name = Checks.shown(x);
                Checks.due(name + ": witnessLength(" + bad + ")", x.witnessLength(bad), WordEquations.NO_SUCH_INDEX);
                for (int i : new int[] {-1, 0, 2, 60, Integer.MAX_VALUE}) {
                    Checks.due(name + ": witnessLetter(" + bad + ", " + i + ")", x.witnessLetter(bad, i),
                            WordEquations.NO_SUCH_INDEX);
                }
            }
        }
    }
}
