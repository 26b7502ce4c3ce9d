/**
 * Decides, enumerates and rewrites word equations with length constraints. All rows are made in the constructor and
 * used again by every call, so that no call makes an object.
 */
public final class WordEquations {
    public static final int NO_SUCH_INDEX = -1;
    public static final int BAD_VALUE = -2;
    public static final int NOT_POSSIBLE = -3;
    public static final int FULL = -4;
    public static final int NONE = -9;
    public static final int UNSATISFIABLE = 0, SATISFIABLE = 1, UNKNOWN = 2;

    private static final int VARIABLES = 4;
    private static final int MAX_SYMBOLS = 12;
    private static final int MAX_CHARACTER = 255;
    private static final int MAX_WORD_NUMBER = 62;
    private static final int MAX_WORD_BOUND = 3;
    private static final int MAX_LENGTH_BOUND = 9;
    private static final int MAX_COMMANDS = 4;
    private static final int MAX_CHECKS = 200;
    private static final long MULTIPLIER = 6364136223846793005L;
    private static final long INCREMENT = 1442695040888963407L;

    private final EquationText text;
    private final Equation equation;
    private final LengthConstraints constraints;
    private final History history;
    private final Slots slots;
    private final Assignment assignment;
    private final LengthEquation lengths;
    private final BoundedSolutions solutions;
    private final NielsenSearch search;
    private final Script scripts;

    public WordEquations() {
        text = new EquationText();
        equation = new Equation();
        constraints = new LengthConstraints();
        history = new History();
        slots = new Slots();
        assignment = new Assignment();
        lengths = new LengthEquation(constraints);
        solutions = new BoundedSolutions(lengths);
        search = new NielsenSearch();
        scripts = new Script(solutions, search);
    }

    // ---- equation text

    public int append(int c) {
        if (c < 0 || c > MAX_CHARACTER) {
            return BAD_VALUE;
        }
        return text.add((char) c) ? text.size() : FULL;
    }

    public int clearText() {
        int previous = text.size();
        text.empty();
        return previous;
    }

    public int errorPosition() {
        return text.firstError();
    }

    public int load() {
        if (text.firstError() != NONE) {
            return NOT_POSSIBLE;
        }
        text.readEquation(equation);
        text.readConstraints(constraints);
        history.forget();
        slots.empty();
        return constraints.size();
    }

    // ---- reading the equation

    public int sideLength(int side) {
        return isSide(side) ? Sides.size(equation.side(side)) : NO_SUCH_INDEX;
    }

    public int symbolAt(int side, int i) {
        if (!isSide(side) || i < 0 || i >= Sides.size(equation.side(side))) {
            return NO_SUCH_INDEX;
        }
        return Sides.character(Sides.symbol(equation.side(side), i));
    }

    public int occurrences(int side, int variable) {
        if (!isSide(side) || !isVariable(variable)) {
            return NO_SUCH_INDEX;
        }
        return Sides.countOf(equation.side(side), Sides.variable(variable));
    }

    // ---- actions

    public int swapSides() {
        history.remember(equation);
        equation.swap();
        return Sides.size(equation.left);
    }

    public int reverse() {
        history.remember(equation);
        equation.turn();
        return equation.size();
    }

    public int cancel() {
        history.remember(equation);
        return equation.cancelEnds();
    }

    public int exchangeLetters() {
        history.remember(equation);
        equation.exchange();
        return equation.total(Sides.LETTER_A) + equation.total(Sides.LETTER_B);
    }

    public int eliminate(int variable) {
        if (!isVariable(variable)) {
            return NO_SUCH_INDEX;
        }
        history.remember(equation);
        return equation.replace(Sides.variable(variable), Sides.EMPTY);
    }

    public int substitute(int variable) {
        if (!isVariable(variable)) {
            return NO_SUCH_INDEX;
        }
        if (!text.hasOnlySymbols()) {
            return NOT_POSSIBLE;
        }
        int symbol = Sides.variable(variable);
        if (equation.longestAfter(symbol, text.size()) > MAX_SYMBOLS) {
            return FULL;
        }
        history.remember(equation);
        return equation.replace(symbol, text.packed(0, text.size()));
    }

    public int undo() {
        if (history.size() == 0) {
            return NOT_POSSIBLE;
        }
        history.takeBack(equation);
        return history.size();
    }

    // ---- bounded solutions

    public int satisfies(int w, int x, int y, int z) {
        if (!isWordNumber(w) || !isWordNumber(x) || !isWordNumber(y) || !isWordNumber(z)) {
            return BAD_VALUE;
        }
        return holdsFor(w, x, y, z) ? 1 : 0;
    }

    public int countSolutions(int bound) {
        if (bound < 0 || bound > MAX_WORD_BOUND) {
            return BAD_VALUE;
        }
        return solutions.enumerate(equation, bound);
    }

    public int firstSolution(int bound, int variable) {
        if (!isVariable(variable)) {
            return NO_SUCH_INDEX;
        }
        if (bound < 0 || bound > MAX_WORD_BOUND) {
            return BAD_VALUE;
        }
        return solutions.enumerate(equation, bound) == 0 ? NONE : solutions.firstNumber(variable);
    }

    public int leastTotalLength(int bound) {
        if (bound < 0 || bound > MAX_WORD_BOUND) {
            return BAD_VALUE;
        }
        return solutions.enumerate(equation, bound) == 0 ? NONE : solutions.leastTotal();
    }

    public int countLengths(int bound) {
        if (bound < 0 || bound > MAX_LENGTH_BOUND) {
            return BAD_VALUE;
        }
        lengths.prepare(equation, bound);
        return lengths.solutions();
    }

    public int refutedByCounting() {
        for (int variable = 0; variable < VARIABLES; variable++) {
            if (equation.surplus(Sides.variable(variable)) != 0) {
                return 0;
            }
        }
        boolean balanced = equation.surplus(Sides.LETTER_A) == 0 && equation.surplus(Sides.LETTER_B) == 0;
        return balanced ? 0 : 1;
    }

    // ---- search

    public int decide() {
        return search.answerFor(equation);
    }

    public int nodeCount() {
        search.answerFor(equation);
        return search.size();
    }

    public int proofLength() {
        return search.answerFor(equation) == SATISFIABLE ? search.proofSize() : NONE;
    }

    public int proofRule(int i) {
        if (search.answerFor(equation) != SATISFIABLE) {
            return NONE;
        }
        return i < 0 || i >= search.proofSize() ? NO_SUCH_INDEX : search.ruleOfProof(i);
    }

    public int witnessLength(int variable) {
        if (!isVariable(variable)) {
            return NO_SUCH_INDEX;
        }
        if (search.answerFor(equation) != SATISFIABLE || !search.buildWitness(assignment)) {
            return NONE;
        }
        return assignment.lengthOf(Sides.variable(variable));
    }

    public int witnessLetter(int variable, int i) {
        if (!isVariable(variable)) {
            return NO_SUCH_INDEX;
        }
        if (search.answerFor(equation) != SATISFIABLE || !search.buildWitness(assignment)) {
            return NONE;
        }
        int symbol = Sides.variable(variable);
        return i < 0 || i >= assignment.lengthOf(symbol) ? NONE : assignment.letterOf(symbol, i);
    }

    // ---- scripts, random checks

    public int runScript(int n, long script) {
        if (n < 1 || n > MAX_COMMANDS || script < 0 || Script.withoutLast(n, script) != 0) {
            return BAD_VALUE;
        }
        scripts.begin(equation);
        for (int i = 0; i < n; i++) {
            if (!scripts.succeeds((int) (Script.withoutLast(n - 1 - i, script) % Script.GROUP))) {
                return i;
            }
        }
        return NONE;
    }

    public int randomChecks(long seed, int m) {
        if (m < 1 || m > MAX_CHECKS) {
            return BAD_VALUE;
        }
        long x = seed;
        int satisfied = 0;
        for (int check = 0; check < m; check++) {
            x = x * MULTIPLIER + INCREMENT;
            int v = (int) (x >>> 33);
            if (holdsFor(v % 15, v / 15 % 15, v / 225 % 15, v / 3375 % 15)) {
                satisfied++;
            }
        }
        return satisfied;
    }

    // ---- save slots

    public int save(int slot) {
        if (!Slots.has(slot)) {
            return NO_SUCH_INDEX;
        }
        slots.store(slot, equation);
        return equation.size();
    }

    public int restore(int slot) {
        if (!Slots.has(slot)) {
            return NO_SUCH_INDEX;
        }
        if (!slots.isFilled(slot)) {
            return NOT_POSSIBLE;
        }
        slots.fetch(slot, equation);
        history.forget();
        return equation.size();
    }

    // ---- shared by several methods

    private static boolean isSide(int side) {
        return side == 0 || side == 1;
    }

    private static boolean isVariable(int variable) {
        return variable >= 0 && variable < VARIABLES;
    }

    private static boolean isWordNumber(int number) {
        return number >= 0 && number <= MAX_WORD_NUMBER;
    }

    private boolean holdsFor(int w, int x, int y, int z) {
        assignment.giveNumber(Sides.variable(0), w);
        assignment.giveNumber(Sides.variable(1), x);
        assignment.giveNumber(Sides.variable(2), y);
        assignment.giveNumber(Sides.variable(3), z);
        for (int variable = 0; variable < VARIABLES; variable++) {
            if (!constraints.allow(variable, assignment.lengthOf(Sides.variable(variable)))) {
                return false;
            }
        }
        return assignment.equates(equation.left, equation.right);
    }

    /**
     * Functions over a side that is packed into a long: three bits a symbol, the head lowest, zeros behind the last
     * symbol. A packed side is a value, so nodes, remembered equations and slots are copied and compared without
     * making objects.
     */
    private static final class Sides {
        static final long EMPTY = 0;
        static final int NO_SYMBOL = 0;
        static final int LETTER_A = 1;
        static final int LETTER_B = 2;
        static final int FIRST_VARIABLE = 3;
        static final int BITS = 3;
        static final int MASK = 7;
        // The length of a row that has a place for whatever three bits may say.
        static final int KINDS = 8;
        // The rules 3 and 4 make one symbol more than a side may have before they take the head away.
        static final int ROOM = MAX_SYMBOLS + 1;
        private static final String CHARACTERS = "abWXYZ";

        static int variable(int number) {
            return FIRST_VARIABLE + number;
        }

        static boolean isVariableSymbol(int symbol) {
            return symbol >= FIRST_VARIABLE && symbol < FIRST_VARIABLE + VARIABLES;
        }

        static int symbolOf(char character) {
            return CHARACTERS.indexOf(character) + 1;
        }

        static char character(int symbol) {
            return symbol < 1 || symbol > CHARACTERS.length() ? ' ' : CHARACTERS.charAt(symbol - 1);
        }

        static int head(long side) {
            return (int) side & MASK;
        }

        static long tail(long side) {
            return side >>> BITS;
        }

        static int symbol(long side, int i) {
            return i < 0 || i >= ROOM ? NO_SYMBOL : (int) (side >>> (BITS * i)) & MASK;
        }

        static long one(int symbol, int i) {
            return i < 0 || i >= ROOM ? EMPTY : (long) symbol << (BITS * i);
        }

        static int size(long side) {
            int size = 0;
            while (size < ROOM && (side >>> (BITS * size)) != EMPTY) {
                size++;
            }
            return size;
        }

        static int countOf(long side, int symbol) {
            int count = 0;
            for (int i = 0; i < ROOM; i++) {
                if (((side >>> (BITS * i)) & MASK) == symbol) {
                    count++;
                }
            }
            return count;
        }

        static long reversed(long side) {
            int size = size(side);
            long result = EMPTY;
            for (int i = 0; i < size; i++) {
                result = (result << BITS) | symbol(side, i);
            }
            return result;
        }

        static long exchanged(long side) {
            long result = EMPTY;
            for (int i = 0; i < ROOM; i++) {
                int symbol = symbol(side, i);
                boolean letter = symbol == LETTER_A || symbol == LETTER_B;
                result |= one(letter ? LETTER_A + LETTER_B - symbol : symbol, i);
            }
            return result;
        }

        /** The result has at most ROOM symbols: callers look at the length first. */
        static long replaced(long side, int symbol, long replacement) {
            int size = size(side);
            int width = size(replacement);
            long result = EMPTY;
            int at = 0;
            for (int i = 0; i < size; i++) {
                int next = symbol(side, i);
                result |= (next == symbol ? replacement : (long) next) << (BITS * at);
                at += next == symbol ? width : 1;
            }
            return result;
        }

        static int sizeAfter(long side, int symbol, int width) {
            return size(side) + countOf(side, symbol) * (width - 1);
        }
    }

    /** The two packed sides, and what the actions do to them. */
    private static final class Equation {
        long left;
        long right;

        void set(long newLeft, long newRight) {
            left = newLeft;
            right = newRight;
        }

        long side(int side) {
            return side == 0 ? left : right;
        }

        int size() {
            return Sides.size(left) + Sides.size(right);
        }

        int total(int symbol) {
            return Sides.countOf(left, symbol) + Sides.countOf(right, symbol);
        }

        int surplus(int symbol) {
            return Sides.countOf(left, symbol) - Sides.countOf(right, symbol);
        }

        int longestAfter(int symbol, int width) {
            return Math.max(Sides.sizeAfter(left, symbol, width), Sides.sizeAfter(right, symbol, width));
        }

        void swap() {
            set(right, left);
        }

        void turn() {
            set(Sides.reversed(left), Sides.reversed(right));
        }

        void exchange() {
            set(Sides.exchanged(left), Sides.exchanged(right));
        }

        int cancelEnds() {
            int removed = cancelHeads();
            turn();
            removed += cancelHeads();
            turn();
            return removed;
        }

        private int cancelHeads() {
            int removed = 0;
            while (removed < MAX_SYMBOLS && left != Sides.EMPTY && Sides.head(left) == Sides.head(right)) {
                set(Sides.tail(left), Sides.tail(right));
                removed++;
            }
            return removed;
        }

        int replace(int symbol, long replacement) {
            int replaced = total(symbol);
            set(Sides.replaced(left, symbol, replacement), Sides.replaced(right, symbol, replacement));
            return replaced;
        }
    }

    /** The text buffer, and the grammar of equation texts. */
    private static final class EquationText {
        private static final int CAPACITY = 40;
        private static final int MAX_SIDE = 8;
        private static final int CONSTRAINT_WIDTH = 4;

        private final char[] characters = new char[CAPACITY];
        private int size;

        int size() {
            return size;
        }

        void empty() {
            size = 0;
        }

        boolean add(char character) {
            if (size < 0 || size >= CAPACITY) {
                return false;
            }
            characters[size] = character;
            size++;
            return true;
        }

        /** Behind the end stands the character 0, which no part of an equation text accepts. */
        private char at(int i) {
            return i < 0 || i >= size || i >= CAPACITY ? 0 : characters[i];
        }

        boolean hasOnlySymbols() {
            for (int i = 0; i < size; i++) {
                if (Sides.symbolOf(at(i)) == Sides.NO_SYMBOL) {
                    return false;
                }
            }
            return true;
        }

        /** Of a longer text only the first symbols are packed: no side could take more of them. */
        long packed(int from, int to) {
            long side = Sides.EMPTY;
            for (int i = 0; i < MAX_SYMBOLS && from + i < to; i++) {
                side |= Sides.one(Sides.symbolOf(at(from + i)), i);
            }
            return side;
        }

        int firstError() {
            int middle = endOfSide(0);
            if (at(middle) != '=') {
                return middle;
            }
            int end = endOfSide(middle + 1);
            for (int constraint = 0; constraint < LengthConstraints.CAPACITY && end < size; constraint++) {
                for (int part = 0; part < CONSTRAINT_WIDTH; part++) {
                    if (!fits(part, at(end))) {
                        return end;
                    }
                    end++;
                }
            }
            return end == size ? NONE : end;
        }

        private int endOfSide(int from) {
            int end = from;
            while (end < from + MAX_SIDE && Sides.symbolOf(at(end)) != Sides.NO_SYMBOL) {
                end++;
            }
            return end;
        }

        private static boolean fits(int part, char character) {
            switch (part) {
                case 0:
                    return character == ';';
                case 1:
                    return Sides.isVariableSymbol(Sides.symbolOf(character));
                case 2:
                    return character == '<' || character == '=' || character == '>';
                default:
                    return character >= '0' && character <= '9';
            }
        }

        /** Only for a complete equation text, as readConstraints is. */
        void readEquation(Equation equation) {
            int middle = endOfSide(0);
            equation.set(packed(0, middle), packed(middle + 1, endOfSide(middle + 1)));
        }

        void readConstraints(LengthConstraints constraints) {
            constraints.empty();
            int from = endOfSide(endOfSide(0) + 1);
            for (int i = 0; i < LengthConstraints.CAPACITY && from < size; i++) {
                int variable = Sides.symbolOf(at(from + 1)) - Sides.FIRST_VARIABLE;
                constraints.add(variable, at(from + 2), at(from + 3) - '0');
                from += CONSTRAINT_WIDTH;
            }
        }
    }

    /** The length constraints, a place in each row for each of them. */
    private static final class LengthConstraints {
        static final int CAPACITY = 4;

        private final int[] variables = new int[CAPACITY];
        private final char[] relations = new char[CAPACITY];
        private final int[] numbers = new int[CAPACITY];
        private int size;

        int size() {
            return size;
        }

        void empty() {
            size = 0;
        }

        void add(int variable, char relation, int number) {
            if (size < 0 || size >= CAPACITY) {
                return;
            }
            variables[size] = variable;
            relations[size] = relation;
            numbers[size] = number;
            size++;
        }

        boolean allow(int variable, int length) {
            for (int i = 0; i < size && i < CAPACITY; i++) {
                if (variables[i] == variable && !holds(length, relations[i], numbers[i])) {
                    return false;
                }
            }
            return true;
        }

        private static boolean holds(int length, char relation, int number) {
            if (relation == '<') {
                return length < number;
            }
            return relation == '>' ? length > number : length == number;
        }
    }

    /** The equations before the last actions, the oldest first. */
    private static final class History {
        private static final int CAPACITY = 14;

        private final long[] lefts = new long[CAPACITY];
        private final long[] rights = new long[CAPACITY];
        private int size;

        int size() {
            return size;
        }

        void forget() {
            size = 0;
        }

        void remember(Equation equation) {
            if (size < 0 || size >= CAPACITY) {
                forgetOldest();
            }
            lefts[size] = equation.left;
            rights[size] = equation.right;
            size++;
        }

        private void forgetOldest() {
            for (int i = 1; i < CAPACITY; i++) {
                lefts[i - 1] = lefts[i];
                rights[i - 1] = rights[i];
            }
            size = CAPACITY - 1;
        }

        void takeBack(Equation equation) {
            if (size < 1 || size > CAPACITY) {
                return;
            }
            size--;
            equation.set(lefts[size], rights[size]);
        }
    }

    /** The save slots. */
    private static final class Slots {
        private static final int CAPACITY = 2;

        private final long[] lefts = new long[CAPACITY];
        private final long[] rights = new long[CAPACITY];
        private final boolean[] filled = new boolean[CAPACITY];

        static boolean has(int slot) {
            return slot >= 0 && slot < CAPACITY;
        }

        boolean isFilled(int slot) {
            return has(slot) && filled[slot];
        }

        void empty() {
            for (int slot = 0; slot < CAPACITY; slot++) {
                filled[slot] = false;
            }
        }

        void store(int slot, Equation equation) {
            if (has(slot)) {
                lefts[slot] = equation.left;
                rights[slot] = equation.right;
                filled[slot] = true;
            }
        }

        void fetch(int slot, Equation equation) {
            if (has(slot)) {
                equation.set(lefts[slot], rights[slot]);
            }
        }
    }

    /**
     * A word for each symbol; a letter stands for itself, so that sides are spelled without asking what a symbol is.
     * A word is its length and its letters as bits, a 0 and b 1, the last letter lowest.
     */
    private static final class Assignment {
        private static final int LONGEST = 60;
        private static final int LONGEST_NUMBERED = 5;

        private final long[] letters = new long[Sides.KINDS];
        private final int[] lengths = new int[Sides.KINDS];

        Assignment() {
            lengths[Sides.LETTER_A] = 1;
            lengths[Sides.LETTER_B] = 1;
            letters[Sides.LETTER_B] = 1;
        }

        void empty() {
            for (int variable = 0; variable < VARIABLES; variable++) {
                give(Sides.variable(variable), 0, 0);
            }
        }

        void give(int symbol, long newLetters, int length) {
            if (Sides.isVariableSymbol(symbol)) {
                letters[symbol] = newLetters;
                lengths[symbol] = length;
            }
        }

        /** The number of a word plus 1 is, in binary, a 1 followed by the letters of the word. */
        void giveNumber(int symbol, int number) {
            int marked = number + 1;
            int length = 0;
            while (length < LONGEST_NUMBERED && (marked >> (length + 1)) != 0) {
                length++;
            }
            give(symbol, marked - (1 << length), length);
        }

        int numberOf(int symbol) {
            int kind = symbol & Sides.MASK;
            return (int) ((1L << lengths[kind]) + letters[kind] - 1);
        }

        int lengthOf(int symbol) {
            return lengths[symbol & Sides.MASK];
        }

        int letterOf(int symbol, int i) {
            int behind = lengthOf(symbol) - 1 - i;
            return ((letters[symbol & Sides.MASK] >>> behind) & 1) == 0 ? 'a' : 'b';
        }

        boolean equates(long left, long right) {
            return spelled(left) == spelled(right);
        }

        /** The leading 1 tells words of different lengths apart; 12 words of 5 letters stay below the sign bit. */
        private long spelled(long side) {
            long word = 1;
            long rest = side;
            for (int i = 0; i < MAX_SYMBOLS && rest != Sides.EMPTY; i++) {
                int symbol = (int) rest & Sides.MASK;
                word = (word << lengths[symbol]) | letters[symbol];
                rest >>>= Sides.BITS;
            }
            return word;
        }

        /** Puts the word of first before the word of symbol; answers false if the word gets too long. */
        boolean prepend(int symbol, int first) {
            int behind = lengthOf(symbol);
            int length = lengthOf(first) + behind;
            if (length > LONGEST) {
                return false;
            }
            give(symbol, (letters[first & Sides.MASK] << behind) | letters[symbol & Sides.MASK], length);
            return true;
        }
    }

    /** The equation between the lengths of both sides, for the lengths that the constraints and a bound leave. */
    private static final class LengthEquation {
        private final LengthConstraints constraints;
        private final int[] weights = new int[VARIABLES];
        // Bit n of a variable's entry is set if the variable may have the length n.
        private final int[] possible = new int[VARIABLES];
        private int letterSurplus;

        LengthEquation(LengthConstraints constraints) {
            this.constraints = constraints;
        }

        void prepare(Equation equation, int bound) {
            letterSurplus = equation.surplus(Sides.LETTER_A) + equation.surplus(Sides.LETTER_B);
            for (int variable = 0; variable < VARIABLES; variable++) {
                int symbol = Sides.variable(variable);
                weights[variable] = equation.surplus(symbol);
                possible[variable] = possibleUpTo(equation.total(symbol) == 0 ? 0 : bound, variable);
            }
        }

        private int possibleUpTo(int longest, int variable) {
            int lengths = 0;
            for (int length = 0; length <= longest && length <= MAX_LENGTH_BOUND; length++) {
                if (constraints.allow(variable, length)) {
                    lengths |= 1 << length;
                }
            }
            return lengths;
        }

        int letterSurplus() {
            return letterSurplus;
        }

        int solutions() {
            return waysFrom(0, letterSurplus);
        }

        boolean canBalance(int variable, int surplus) {
            return waysFrom(variable, surplus) > 0;
        }

        boolean allows(int variable, int length) {
            return isVariable(variable) && ((possible[variable] >> length) & 1) != 0;
        }

        int surplusWith(int variable, int length, int surplus) {
            return isVariable(variable) ? surplus + weights[variable] * length : surplus;
        }

        /** In how many ways lengths of this variable and of the later ones take away the surplus of the left side. */
        private int waysFrom(int variable, int surplus) {
            if (variable < 0 || variable >= VARIABLES) {
                return surplus == 0 ? 1 : 0;
            }
            int ways = 0;
            for (int length = 0; length <= MAX_LENGTH_BOUND; length++) {
                if (((possible[variable] >> length) & 1) != 0) {
                    ways += waysFrom(variable + 1, surplus + weights[variable] * length);
                }
            }
            return ways;
        }
    }

    /** Goes through the solutions with a bound, in their order. */
    private static final class BoundedSolutions {
        private final LengthEquation lengths;
        private final Assignment assignment = new Assignment();
        private final int[] first = new int[VARIABLES];
        private long left;
        private long right;
        private int found;
        private int least;

        BoundedSolutions(LengthEquation lengths) {
            this.lengths = lengths;
        }

        int enumerate(Equation equation, int bound) {
            left = equation.left;
            right = equation.right;
            found = 0;
            least = 0;
            lengths.prepare(equation, bound);
            chooseWord(0, lengths.letterSurplus());
            return found;
        }

        int firstNumber(int variable) {
            return isVariable(variable) ? first[variable] : NONE;
        }

        int leastTotal() {
            return least;
        }

        private void chooseWord(int variable, int surplus) {
            if (!isVariable(variable)) {
                if (assignment.equates(left, right)) {
                    record();
                }
                return;
            }
            for (int length = 0; length <= MAX_WORD_BOUND; length++) {
                if (lengths.allows(variable, length)) {
                    chooseLetters(variable, length, lengths.surplusWith(variable, length, surplus));
                }
            }
        }

        private void chooseLetters(int variable, int length, int surplus) {
            // Most choices of lengths cannot be completed; their words are not tried.
            if (!lengths.canBalance(variable + 1, surplus)) {
                return;
            }
            for (int letters = 0; letters < 1 << length; letters++) {
                assignment.give(Sides.variable(variable), letters, length);
                chooseWord(variable + 1, surplus);
            }
        }

        private void record() {
            int total = 0;
            for (int variable = 0; variable < VARIABLES; variable++) {
                int symbol = Sides.variable(variable);
                total += assignment.lengthOf(symbol);
                if (found == 0) {
                    first[variable] = assignment.numberOf(symbol);
                }
            }
            least = found == 0 ? total : Math.min(least, total);
            found++;
        }
    }

    /** The breadth-first search of Nielsen transformations; the nodes stand in rows, in the order of their adding. */
    private static final class NielsenSearch {
        private static final int MAX_NODES = 200;
        private static final int NO_NODE = -1;

        private final long[] lefts = new long[MAX_NODES];
        private final long[] rights = new long[MAX_NODES];
        private final int[] parents = new int[MAX_NODES];
        private final int[] rules = new int[MAX_NODES];
        private final int[] depths = new int[MAX_NODES];
        private int size;
        private int solved;
        private boolean dropped;

        int answerFor(Equation equation) {
            size = 0;
            solved = NO_NODE;
            dropped = false;
            addNode(NO_NODE, 0, equation.left, equation.right);
            for (int node = 0; node < MAX_NODES && node < size && solved == NO_NODE; node++) {
                addChildren(node);
            }
            if (solved != NO_NODE) {
                return SATISFIABLE;
            }
            return dropped ? UNKNOWN : UNSATISFIABLE;
        }

        int size() {
            return size;
        }

        int proofSize() {
            return isNode(solved) ? depths[solved] : 0;
        }

        /** The node that the i-th rule of the proof made has the depth i + 1. */
        int ruleOfProof(int i) {
            int node = solved;
            for (int depth = proofSize(); depth > i + 1 && isNode(node); depth--) {
                node = parents[node];
            }
            return isNode(node) ? rules[node] : NONE;
        }

        /** Answers false if the witness is too long. */
        boolean buildWitness(Assignment witness) {
            witness.empty();
            int node = solved;
            for (int depth = proofSize(); depth > 0 && isNode(node); depth--) {
                if (!takeRuleBack(node, witness)) {
                    return false;
                }
                node = parents[node];
            }
            return true;
        }

        private boolean takeRuleBack(int node, Assignment witness) {
            int parent = isNode(node) ? parents[node] : NO_NODE;
            if (!isNode(parent)) {
                return true;
            }
            int leftHead = Sides.head(lefts[parent]);
            int rightHead = Sides.head(rights[parent]);
            switch (rules[node]) {
                case 1:
                    witness.give(leftHead, 0, 0);
                    return true;
                case 2:
                    witness.give(rightHead, 0, 0);
                    return true;
                case 3:
                    return witness.prepend(leftHead, rightHead);
                case 4:
                    return witness.prepend(rightHead, leftHead);
                default:
                    return true;
            }
        }

        private boolean isNode(int node) {
            return node >= 0 && node < size && node < MAX_NODES;
        }

        private void addChildren(int node) {
            if (!isNode(node)) {
                return;
            }
            int leftHead = Sides.head(lefts[node]);
            int rightHead = Sides.head(rights[node]);
            if (leftHead == rightHead) {
                addNode(node, 0, Sides.tail(lefts[node]), Sides.tail(rights[node]));
                return;
            }
            boolean leftVariable = Sides.isVariableSymbol(leftHead);
            boolean rightVariable = Sides.isVariableSymbol(rightHead);
            if (leftVariable) {
                addWithout(node, 1, leftHead);
            }
            if (rightVariable) {
                addWithout(node, 2, rightHead);
            }
            if (leftVariable && rightHead != Sides.NO_SYMBOL) {
                addLonger(node, 3, leftHead, rightHead);
            }
            if (rightVariable && leftHead != Sides.NO_SYMBOL) {
                addLonger(node, 4, rightHead, leftHead);
            }
        }

        private void addWithout(int node, int rule, int variable) {
            long left = Sides.replaced(lefts[node], variable, Sides.EMPTY);
            long right = Sides.replaced(rights[node], variable, Sides.EMPTY);
            addNode(node, rule, left, right);
        }

        private void addLonger(int node, int rule, int variable, int first) {
            // One symbol more than the child may have: its head is not yet removed.
            int longest = MAX_SYMBOLS + 1;
            if (Sides.sizeAfter(lefts[node], variable, 2) > longest
                    || Sides.sizeAfter(rights[node], variable, 2) > longest) {
                dropped = true;
                return;
            }
            long replacement = Sides.one(first, 0) | Sides.one(variable, 1);
            long left = Sides.replaced(lefts[node], variable, replacement);
            long right = Sides.replaced(rights[node], variable, replacement);
            addNode(node, rule, Sides.tail(left), Sides.tail(right));
        }

        private void addNode(int parent, int rule, long left, long right) {
            // The search ends with its solved node, also amid the children of one equation.
            if (solved != NO_NODE || isKnown(left, right)) {
                return;
            }
            if (size < 0 || size >= MAX_NODES) {
                dropped = true;
                return;
            }
            lefts[size] = left;
            rights[size] = right;
            parents[size] = parent;
            rules[size] = rule;
            depths[size] = isNode(parent) ? depths[parent] + 1 : 0;
            if (left == Sides.EMPTY && right == Sides.EMPTY) {
                solved = size;
            }
            size++;
        }

        private boolean isKnown(long left, long right) {
            for (int node = 0; node < size && node < MAX_NODES; node++) {
                if (lefts[node] == left && rights[node] == right) {
                    return true;
                }
            }
            return false;
        }
    }

    /** Runs the commands of a script on a copy of an equation. */
    private static final class Script {
        static final int GROUP = 1000;
        private static final int SCRIPT_BOUND = 2;

        private final BoundedSolutions solutions;
        private final NielsenSearch search;
        private final Equation copy = new Equation();

        Script(BoundedSolutions solutions, NielsenSearch search) {
            this.solutions = solutions;
            this.search = search;
        }

        /** What is left of a script when its last groups are taken away. */
        static long withoutLast(int groups, long script) {
            long rest = script;
            for (int i = 0; i < groups; i++) {
                rest /= GROUP;
            }
            return rest;
        }

        void begin(Equation equation) {
            copy.set(equation.left, equation.right);
        }

        boolean succeeds(int command) {
            int second = command / 10 % 10;
            int third = command % 10;
            switch (command / 100) {
                case 4:
                    return third == 0 && removes(second);
                case 5:
                    return isSide(second) && Sides.size(copy.side(second)) == third;
                case 6:
                    return solutions.enumerate(copy, SCRIPT_BOUND) == command % 100;
                case 7:
                    return second == 0 && search.answerFor(copy) == third;
                case 8:
                    return isVariable(second) && copy.total(Sides.variable(second)) == third;
                default:
                    return rewrites(command);
            }
        }

        private boolean removes(int variable) {
            if (!isVariable(variable)) {
                return false;
            }
            copy.replace(Sides.variable(variable), Sides.EMPTY);
            return true;
        }

        private boolean rewrites(int command) {
            switch (command) {
                case 100:
                    copy.swap();
                    return true;
                case 200:
                    copy.turn();
                    return true;
                case 300:
                    copy.cancelEnds();
                    return true;
                default:
                    return false;
            }
        }
    }
}
