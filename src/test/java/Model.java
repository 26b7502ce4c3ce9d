import java.util.ArrayDeque;
import java.util.ArrayList;
import java.util.Deque;
import java.util.List;
import java.util.regex.Matcher;
import java.util.regex.Pattern;

/**
 * The document once more, word by word and without any thrift, over plain strings: what the class answers is compared
 * with what this answers. It shares no code and no idea with the class.
 */
final class Model {
    private static final Pattern GRAMMAR =
            Pattern.compile("([abWXYZ]{0,8})=([abWXYZ]{0,8})((?:;[WXYZ][<=>][0-9]){0,4})", Pattern.DOTALL);
    private static final String VARIABLES = "WXYZ";
    private static final String SYMBOLS = "abWXYZ";

    private String text = "";
    private String[] sides = {"", ""};
    private List<String> constraints = new ArrayList<>();
    private final Deque<String[]> remembered = new ArrayDeque<>();
    private final String[][] slots = new String[2][];

    // ---- equation text

    int append(int c) {
        if (c < 0 || c > 255) {
            return -2;
        }
        if (text.length() == 40) {
            return -4;
        }
        text += (char) c;
        return text.length();
    }

    int clearText() {
        int length = text.length();
        text = "";
        return length;
    }

    private static boolean startsSome(String prefix) {
        Matcher matcher = GRAMMAR.matcher(prefix);
        return matcher.matches() || matcher.hitEnd();
    }

    int errorPosition() {
        if (GRAMMAR.matcher(text).matches()) {
            return -9;
        }
        for (int i = 0; i < text.length(); i++) {
            if (!startsSome(text.substring(0, i + 1))) {
                return i;
            }
        }
        return text.length();
    }

    int load() {
        Matcher matcher = GRAMMAR.matcher(text);
        if (!matcher.matches()) {
            return -3;
        }
        sides = new String[] {matcher.group(1), matcher.group(2)};
        constraints = new ArrayList<>();
        for (String constraint : matcher.group(3).split(";")) {
            if (!constraint.isEmpty()) {
                constraints.add(constraint);
            }
        }
        remembered.clear();
        slots[0] = null;
        slots[1] = null;
        return constraints.size();
    }

    // ---- reading the equation

    private static boolean isSide(int side) {
        return side == 0 || side == 1;
    }

    private static boolean isVariable(int variable) {
        return variable >= 0 && variable <= 3;
    }

    private static String name(int variable) {
        return VARIABLES.substring(variable, variable + 1);
    }

    private static int count(String where, String what) {
        return where.length() - where.replace(what, "").length();
    }

    int sideLength(int side) {
        return isSide(side) ? sides[side].length() : -1;
    }

    int symbolAt(int side, int i) {
        return isSide(side) && i >= 0 && i < sides[side].length() ? sides[side].charAt(i) : -1;
    }

    int occurrences(int side, int variable) {
        return isSide(side) && isVariable(variable) ? count(sides[side], name(variable)) : -1;
    }

    // ---- actions

    private void act(String left, String right) {
        remembered.addLast(sides);
        if (remembered.size() > 14) {
            remembered.removeFirst();
        }
        sides = new String[] {left, right};
    }

    private static String turned(String side) {
        return new StringBuilder(side).reverse().toString();
    }

    private static String[] cancelled(String left, String right) {
        while (!left.isEmpty() && !right.isEmpty() && left.charAt(0) == right.charAt(0)) {
            left = left.substring(1);
            right = right.substring(1);
        }
        while (!left.isEmpty() && !right.isEmpty()
                && left.charAt(left.length() - 1) == right.charAt(right.length() - 1)) {
            left = left.substring(0, left.length() - 1);
            right = right.substring(0, right.length() - 1);
        }
        return new String[] {left, right};
    }

    int swapSides() {
        act(sides[1], sides[0]);
        return sides[0].length();
    }

    int reverse() {
        act(turned(sides[0]), turned(sides[1]));
        return sides[0].length() + sides[1].length();
    }

    int cancel() {
        String[] shorter = cancelled(sides[0], sides[1]);
        int removed = sides[0].length() - shorter[0].length();
        act(shorter[0], shorter[1]);
        return removed;
    }

    private static String exchanged(String side) {
        return side.replace('a', '?').replace('b', 'a').replace('?', 'b');
    }

    int exchangeLetters() {
        act(exchanged(sides[0]), exchanged(sides[1]));
        String both = sides[0] + sides[1];
        return count(both, "a") + count(both, "b");
    }

    int eliminate(int variable) {
        if (!isVariable(variable)) {
            return -1;
        }
        int removed = count(sides[0] + sides[1], name(variable));
        act(sides[0].replace(name(variable), ""), sides[1].replace(name(variable), ""));
        return removed;
    }

    int substitute(int variable) {
        if (!isVariable(variable)) {
            return -1;
        }
        for (char c : text.toCharArray()) {
            if (SYMBOLS.indexOf(c) < 0) {
                return -3;
            }
        }
        String left = sides[0].replace(name(variable), text);
        String right = sides[1].replace(name(variable), text);
        if (left.length() > 12 || right.length() > 12) {
            return -4;
        }
        int replaced = count(sides[0] + sides[1], name(variable));
        act(left, right);
        return replaced;
    }

    int undo() {
        if (remembered.isEmpty()) {
            return -3;
        }
        sides = remembered.removeLast();
        return remembered.size();
    }

    // ---- bounded solutions

    private static List<String> wordsUpTo(int bound) {
        List<String> words = new ArrayList<>();
        List<String> last = List.of("");
        for (int length = 0; length <= bound; length++) {
            words.addAll(last);
            List<String> longer = new ArrayList<>();
            for (String word : last) {
                longer.add(word + "a");
                longer.add(word + "b");
            }
            last = longer;
        }
        return words;
    }

    private static final List<String> WORDS = wordsUpTo(5);

    private static String spelled(String side, String[] words) {
        StringBuilder word = new StringBuilder();
        for (char symbol : side.toCharArray()) {
            int variable = VARIABLES.indexOf(symbol);
            word.append(variable < 0 ? String.valueOf(symbol) : words[variable]);
        }
        return word.toString();
    }

    private boolean lengthsHold(int[] lengths) {
        for (String constraint : constraints) {
            int length = lengths[VARIABLES.indexOf(constraint.charAt(0))];
            int number = constraint.charAt(2) - '0';
            char relation = constraint.charAt(1);
            boolean holds = relation == '<' ? length < number : relation == '>' ? length > number : length == number;
            if (!holds) {
                return false;
            }
        }
        return true;
    }

    private boolean satisfied(String[] equation, String[] words) {
        int[] lengths = {words[0].length(), words[1].length(), words[2].length(), words[3].length()};
        return lengthsHold(lengths) && spelled(equation[0], words).equals(spelled(equation[1], words));
    }

    int satisfies(int w, int x, int y, int z) {
        for (int number : new int[] {w, x, y, z}) {
            if (number < 0 || number > 62) {
                return -2;
            }
        }
        return satisfied(sides, new String[] {WORDS.get(w), WORDS.get(x), WORDS.get(y), WORDS.get(z)}) ? 1 : 0;
    }

    private static boolean isUsed(String[] equation, int variable) {
        return (equation[0] + equation[1]).contains(name(variable));
    }

    private List<String[]> solutions(String[] equation, int bound) {
        List<List<String>> choices = new ArrayList<>();
        for (int variable = 0; variable < 4; variable++) {
            choices.add(isUsed(equation, variable) ? wordsUpTo(bound) : List.of(""));
        }
        List<String[]> found = new ArrayList<>();
        for (String w : choices.get(0)) {
            for (String x : choices.get(1)) {
                for (String y : choices.get(2)) {
                    for (String z : choices.get(3)) {
                        String[] words = {w, x, y, z};
                        if (satisfied(equation, words)) {
                            found.add(words);
                        }
                    }
                }
            }
        }
        return found;
    }

    int countSolutions(int bound) {
        return bound < 0 || bound > 3 ? -2 : solutions(sides, bound).size();
    }

    int firstSolution(int bound, int variable) {
        if (!isVariable(variable)) {
            return -1;
        }
        if (bound < 0 || bound > 3) {
            return -2;
        }
        List<String[]> found = solutions(sides, bound);
        return found.isEmpty() ? -9 : WORDS.indexOf(found.get(0)[variable]);
    }

    int leastTotalLength(int bound) {
        if (bound < 0 || bound > 3) {
            return -2;
        }
        int least = -9;
        for (String[] words : solutions(sides, bound)) {
            int total = String.join("", words).length();
            if (least == -9 || total < least) {
                least = total;
            }
        }
        return least;
    }

    private static int lengthOf(String side, int[] lengths) {
        int length = 0;
        for (char symbol : side.toCharArray()) {
            int variable = VARIABLES.indexOf(symbol);
            length += variable < 0 ? 1 : lengths[variable];
        }
        return length;
    }

    int countLengths(int bound) {
        if (bound < 0 || bound > 9) {
            return -2;
        }
        int[] most = new int[4];
        for (int variable = 0; variable < 4; variable++) {
            most[variable] = isUsed(sides, variable) ? bound : 0;
        }
        int count = 0;
        for (int w = 0; w <= most[0]; w++) {
            for (int x = 0; x <= most[1]; x++) {
                for (int y = 0; y <= most[2]; y++) {
                    for (int z = 0; z <= most[3]; z++) {
                        int[] lengths = {w, x, y, z};
                        if (lengthOf(sides[0], lengths) == lengthOf(sides[1], lengths) && lengthsHold(lengths)) {
                            count++;
                        }
                    }
                }
            }
        }
        return count;
    }

    int refutedByCounting() {
        for (int variable = 0; variable < 4; variable++) {
            if (count(sides[0], name(variable)) != count(sides[1], name(variable))) {
                return 0;
            }
        }
        boolean same = count(sides[0], "a") == count(sides[1], "a") && count(sides[0], "b") == count(sides[1], "b");
        return same ? 0 : 1;
    }

    // ---- search

    private record Node(String left, String right, Node parent, int rule) {
        boolean isSolved() {
            return left.isEmpty() && right.isEmpty();
        }

        boolean sameAs(Node other) {
            return left.equals(other.left) && right.equals(other.right);
        }
    }

    private static final class Search {
        final List<Node> nodes = new ArrayList<>();
        boolean dropped;
        Node solved;

        Search(String[] equation) {
            Node first = new Node(equation[0], equation[1], null, -1);
            nodes.add(first);
            if (first.isSolved()) {
                solved = first;
            }
            for (int i = 0; i < nodes.size() && solved == null; i++) {
                for (Node child : children(nodes.get(i))) {
                    take(child);
                    if (solved != null) {
                        break;
                    }
                }
            }
        }

        private void take(Node child) {
            if (child.left.length() > 12 || child.right.length() > 12) {
                dropped = true;
                return;
            }
            for (Node node : nodes) {
                if (node.sameAs(child)) {
                    return;
                }
            }
            if (nodes.size() == 200) {
                dropped = true;
                return;
            }
            nodes.add(child);
            if (child.isSolved()) {
                solved = child;
            }
        }

        private static String headOf(String side) {
            return side.isEmpty() ? "" : side.substring(0, 1);
        }

        private static boolean isVariableName(String symbol) {
            return !symbol.isEmpty() && VARIABLES.contains(symbol);
        }

        private static List<Node> children(Node n) {
            List<Node> made = new ArrayList<>();
            String l = headOf(n.left);
            String r = headOf(n.right);
            if (!l.isEmpty() && l.equals(r)) {
                made.add(new Node(n.left.substring(1), n.right.substring(1), n, 0));
                return made;
            }
            if (isVariableName(l)) {
                made.add(new Node(n.left.replace(l, ""), n.right.replace(l, ""), n, 1));
            }
            if (isVariableName(r)) {
                made.add(new Node(n.left.replace(r, ""), n.right.replace(r, ""), n, 2));
            }
            if (isVariableName(l) && !r.isEmpty()) {
                String left = n.left.replace(l, r + l);
                String right = n.right.replace(l, r + l);
                made.add(new Node(left.substring(1), right.substring(1), n, 3));
            }
            if (isVariableName(r) && !l.isEmpty()) {
                String left = n.left.replace(r, l + r);
                String right = n.right.replace(r, l + r);
                made.add(new Node(left.substring(1), right.substring(1), n, 4));
            }
            return made;
        }

        int answer() {
            return solved != null ? 1 : dropped ? 2 : 0;
        }

        List<Integer> proof() {
            List<Integer> rules = new ArrayList<>();
            for (Node node = solved; node.parent != null; node = node.parent) {
                rules.add(0, node.rule);
            }
            return rules;
        }

        private static String wordOf(String symbol, String[] words) {
            return isVariableName(symbol) ? words[VARIABLES.indexOf(symbol)] : symbol;
        }

        /** null if it is too long. */
        String[] witness() {
            String[] words = {"", "", "", ""};
            for (Node node = solved; node.parent != null; node = node.parent) {
                String l = headOf(node.parent.left);
                String r = headOf(node.parent.right);
                if (node.rule == 1) {
                    words[VARIABLES.indexOf(l)] = "";
                } else if (node.rule == 2) {
                    words[VARIABLES.indexOf(r)] = "";
                } else if (node.rule == 3) {
                    words[VARIABLES.indexOf(l)] = wordOf(r, words) + wordOf(l, words);
                } else if (node.rule == 4) {
                    words[VARIABLES.indexOf(r)] = wordOf(l, words) + wordOf(r, words);
                }
                for (String word : words) {
                    if (word.length() > 60) {
                        return null;
                    }
                }
            }
            return words;
        }
    }

    int decide() {
        return new Search(sides).answer();
    }

    int nodeCount() {
        return new Search(sides).nodes.size();
    }

    int proofLength() {
        Search search = new Search(sides);
        return search.answer() == 1 ? search.proof().size() : -9;
    }

    int proofRule(int i) {
        Search search = new Search(sides);
        if (search.answer() != 1) {
            return -9;
        }
        List<Integer> proof = search.proof();
        return i >= 0 && i < proof.size() ? proof.get(i) : -1;
    }

    int witnessLength(int variable) {
        if (!isVariable(variable)) {
            return -1;
        }
        Search search = new Search(sides);
        if (search.answer() != 1 || search.witness() == null) {
            return -9;
        }
        return search.witness()[variable].length();
    }

    int witnessLetter(int variable, int i) {
        if (!isVariable(variable)) {
            return -1;
        }
        Search search = new Search(sides);
        if (search.answer() != 1 || search.witness() == null) {
            return -9;
        }
        String word = search.witness()[variable];
        return i >= 0 && i < word.length() ? word.charAt(i) : -9;
    }

    // ---- scripts, random checks

    int runScript(int n, long script) {
        if (n < 1 || n > 4 || script < 0 || String.valueOf(script).length() > 3 * n) {
            return -2;
        }
        String digits = String.format("%0" + 3 * n + "d", script);
        String[] copy = sides.clone();
        for (int i = 0; i < n; i++) {
            copy = afterCommand(copy, digits.substring(3 * i, 3 * i + 3));
            if (copy == null) {
                return i;
            }
        }
        return -9;
    }

    /** null if the command fails. */
    private String[] afterCommand(String[] e, String command) {
        int second = command.charAt(1) - '0';
        int third = command.charAt(2) - '0';
        if (command.equals("100")) {
            return new String[] {e[1], e[0]};
        } else if (command.equals("200")) {
            return new String[] {turned(e[0]), turned(e[1])};
        } else if (command.equals("300")) {
            return cancelled(e[0], e[1]);
        } else if (command.matches("4[0-3]0")) {
            return new String[] {e[0].replace(name(second), ""), e[1].replace(name(second), "")};
        } else if (command.matches("5[01].")) {
            return e[second].length() == third ? e : null;
        } else if (command.matches("6..")) {
            return solutions(e, 2).size() == 10 * second + third ? e : null;
        } else if (command.matches("70.")) {
            return new Search(e).answer() == third ? e : null;
        } else if (command.matches("8[0-3].")) {
            return count(e[0] + e[1], name(second)) == third ? e : null;
        }
        return null;
    }

    int randomChecks(long seed, int m) {
        if (m < 1 || m > 200) {
            return -2;
        }
        long x = seed;
        int satisfied = 0;
        for (int i = 0; i < m; i++) {
            x = x * 6364136223846793005L + 1442695040888963407L;
            int v = (int) (x >>> 33);
            satisfied += satisfies(v % 15, v / 15 % 15, v / 225 % 15, v / 3375 % 15);
        }
        return satisfied;
    }

    // ---- save slots

    int save(int slot) {
        if (slot != 0 && slot != 1) {
            return -1;
        }
        slots[slot] = sides;
        return sides[0].length() + sides[1].length();
    }

    int restore(int slot) {
        if (slot != 0 && slot != 1) {
            return -1;
        }
        if (slots[slot] == null) {
            return -3;
        }
        sides = slots[slot];
        remembered.clear();
        return sides[0].length() + sides[1].length();
    }
}
