import java.util.Arrays;

/**
 * A workbench for disambiguation filters over the packed parse forest of an infix expression.
 *
 * <p>Every row is made by a constructor and used again, so that no call makes an object.
 */
public final class DisambiguationBench {
    public static final int INVALID_ARGUMENT = -1;
    public static final int INVALID_STATE = -2;
    public static final int LIMIT_REACHED = -3;
    public static final int NOT_FOUND = -4;
    public static final long OVERFLOW = 1L << 40;
    public static final long DIVISION_BY_ZERO = 1L << 41;
    public static final long NO_VALUE = 1L << 42;
    public static final int PRIORITY = 0, ASSOCIATIVITY = 1, REJECT = 2, PREFER = 3, AVOID = 4;

    private static final String INITIAL_SETUP = "op+4l;op-4l;op*6l;op<2n;expra-b*c+d<e;";
    private static final String SYMBOLS = "+-*/%&|<=";
    private static final int PLUS = 0, MINUS = 1, TIMES = 2, DIVIDE = 3, REMAINDER = 4, AND = 5, OR = 6, LESS = 7;
    private static final String ASSOCIATIVITIES = "lrn";
    private static final int LEFT_ASSOCIATIVE = 0, RIGHT_ASSOCIATIVE = 1;

    private static final int FIRST_CHARACTER = 32;
    private static final int LAST_CHARACTER = 126;
    private static final int TEXT_LIMIT = 200;
    private static final int SYMBOL_COUNT = 9;
    private static final int LETTER_COUNT = 26;
    private static final int OPERAND_LIMIT = 11;
    private static final int OPERATOR_LIMIT = 10;
    private static final int FILTER_LIMIT = 6;
    private static final int HISTORY_LIMIT = 4;
    private static final int VARIABLE_LIMIT = 1000000000;
    private static final int EVALUATION_LIMIT = 300;

    private static final int UNDECLARED = -1;
    private static final int ABSENT = -1;
    private static final int SPAN_COUNT = OPERAND_LIMIT * OPERAND_LIMIT;
    /** A set of operators is an int: its bit i tells whether operator i is in the set. */
    private static final int EVERY_OPERATOR = -1;

    private final SetupText text = new SetupText();
    private final Setup setup = new Setup();
    private final Setup candidate = new Setup();
    private final EditState state = new EditState();
    private final History history = new History();
    private final Forest forest = new Forest();
    private final Tree tree = new Tree();
    private final long[] results = new long[EVALUATION_LIMIT];

    public DisambiguationBench() {
        for (int i = 0; i < INITIAL_SETUP.length(); i++) {
            text.put(INITIAL_SETUP.charAt(i));
        }
        takeSetup();
        text.empty();
    }

    // ---- setup

    public int append(int character) {
        if (character < FIRST_CHARACTER || character > LAST_CHARACTER) {
            return INVALID_ARGUMENT;
        }
        return text.put((char) character) ? text.length : LIMIT_REACHED;
    }

    public int clearText() {
        int length = text.length;
        text.empty();
        return length;
    }

    public int syntaxError() {
        return text.parse(candidate);
    }

    public int load() {
        return takeSetup() ? setup.operators() : INVALID_STATE;
    }

    /** Parses into the candidate first, so that a malformed text leaves the present setup as it is. */
    private boolean takeSetup() {
        if (text.parse(candidate) != NOT_FOUND || !candidate.hasExpression()) {
            return false;
        }
        setup.copyFrom(candidate);
        state.reset();
        history.reset();
        return true;
    }

    // ---- pipeline

    public int addPriorityFilter(int position) {
        return insertFilter(position, FilterCode.of(PRIORITY, 0, 0, false));
    }

    public int addAssociativityFilter(int position) {
        return insertFilter(position, FilterCode.of(ASSOCIATIVITY, 0, 0, false));
    }

    public int addRejectFilter(int position, int parentSymbol, int childSymbol, boolean rightSide) {
        if (!isSymbol(parentSymbol) || !isSymbol(childSymbol)) {
            return INVALID_ARGUMENT;
        }
        return insertFilter(position, FilterCode.of(REJECT, parentSymbol, childSymbol, rightSide));
    }

    public int addPreferFilter(int position, int symbol) {
        if (!isSymbol(symbol)) {
            return INVALID_ARGUMENT;
        }
        return insertFilter(position, FilterCode.of(PREFER, symbol, 0, false));
    }

    public int addAvoidFilter(int position, int symbol) {
        if (!isSymbol(symbol)) {
            return INVALID_ARGUMENT;
        }
        return insertFilter(position, FilterCode.of(AVOID, symbol, 0, false));
    }

    private int insertFilter(int position, int filter) {
        if (position < 0 || position > state.pipelineLength) {
            return INVALID_ARGUMENT;
        }
        if (state.pipelineLength >= FILTER_LIMIT) {
            return LIMIT_REACHED;
        }
        history.save(state);
        state.insert(position, filter);
        return state.pipelineLength;
    }

    public int removeFilter(int position) {
        if (!isPosition(position)) {
            return INVALID_ARGUMENT;
        }
        history.save(state);
        state.delete(position);
        return state.pipelineLength;
    }

    public int swapFilters(int position) {
        if (!isPosition(position)) {
            return INVALID_ARGUMENT;
        }
        if (isLastPosition(position)) {
            return INVALID_STATE;
        }
        history.save(state);
        state.swapWithNext(position);
        return FilterCode.kind(state.filters[position]);
    }

    public int filterKind(int position) {
        return isPosition(position) ? FilterCode.kind(state.filters[position]) : INVALID_ARGUMENT;
    }

    public int setVariable(int letter, int value) {
        if (letter < 0 || letter >= LETTER_COUNT || value < -VARIABLE_LIMIT || value > VARIABLE_LIMIT) {
            return INVALID_ARGUMENT;
        }
        boolean changed = state.variables[letter] != value;
        history.save(state);
        state.variables[letter] = value;
        return changed ? 1 : 0;
    }

    public int undo() {
        return history.restore(state) ? history.size : INVALID_STATE;
    }

    // ---- operators

    public int symbolOf(int operator) {
        return operator >= 0 && operator < setup.operators() ? setup.symbols[operator] : INVALID_ARGUMENT;
    }

    public int priorityOf(int symbol) {
        if (!isSymbol(symbol)) {
            return INVALID_ARGUMENT;
        }
        return setup.isDeclared(symbol) ? setup.priorities[symbol] : NOT_FOUND;
    }

    // ---- counts

    public int treeCount(int filters) {
        return isFilterCount(filters) ? growForest(filters) : INVALID_ARGUMENT;
    }

    public int derivations(int filters, int low, int high, int root) {
        boolean isSpan = low >= 0 && low < high && high <= setup.operators();
        if (!isFilterCount(filters) || !isSpan || root < low || root >= high) {
            return INVALID_ARGUMENT;
        }
        growForest(filters);
        return forest.derivationsOf(low, high, root, EVERY_OPERATOR);
    }

    public int orderMatters(int position) {
        if (!isPosition(position)) {
            return INVALID_ARGUMENT;
        }
        if (isLastPosition(position)) {
            return INVALID_STATE;
        }
        int trees = growForest(state.pipelineLength);
        state.swapWithNext(position);
        int treesWhenSwapped = growForest(state.pipelineLength);
        state.swapWithNext(position);
        return trees == treesWhenSwapped ? 0 : 1;
    }

    // ---- single trees

    public int operatorAt(int filters, int rank, int preorder) {
        if (!isFilterCount(filters) || rank < 0 || preorder < 0) {
            return INVALID_ARGUMENT;
        }
        return selectTree(filters, rank) ? tree.operatorInPreorder(preorder) : NOT_FOUND;
    }

    public int discardedBy(int rank) {
        if (rank < 0) {
            return INVALID_ARGUMENT;
        }
        // selectTree(0, ..) leaves a forest that no filter has touched: the filters are applied to it one by one.
        if (!selectTree(0, rank)) {
            return NOT_FOUND;
        }
        for (int position = 0; position < state.pipelineLength; position++) {
            forest.apply(setup, state.filters[position]);
            if (!tree.survives(forest)) {
                return position;
            }
        }
        return state.pipelineLength;
    }

    public int survivorRank(int filters, int rank) {
        if (!isFilterCount(filters) || rank < 0) {
            return INVALID_ARGUMENT;
        }
        if (!selectTree(0, rank)) {
            return NOT_FOUND;
        }
        growForest(filters);
        return tree.survives(forest) ? tree.rankIn(forest) : NOT_FOUND;
    }

    public long value(int filters, int rank) {
        if (!isFilterCount(filters) || rank < 0 || !selectTree(filters, rank)) {
            return NO_VALUE;
        }
        return tree.evaluate(setup, state.variables);
    }

    public int distinctValues(int filters) {
        if (!isFilterCount(filters)) {
            return INVALID_ARGUMENT;
        }
        int trees = growForest(filters);
        if (trees > EVALUATION_LIMIT) {
            return LIMIT_REACHED;
        }
        int distinct = 0;
        for (int rank = 0; rank < trees; rank++) {
            tree.select(forest, rank);
            distinct = noteResult(distinct, tree.evaluate(setup, state.variables));
        }
        return distinct;
    }

    /** Returns how many results are noted then; a result that is there already is not noted again. */
    private int noteResult(int noted, long result) {
        for (int i = 0; i < noted; i++) {
            if (results[i] == result) {
                return noted;
            }
        }
        results[noted] = result;
        return noted + 1;
    }

    // ---- sizes

    public int operatorCount() {
        return setup.operators();
    }

    public int filterCount() {
        return state.pipelineLength;
    }

    public int historySize() {
        return history.size;
    }

    // ---- helpers

    private static boolean isSymbol(int number) {
        return number >= 0 && number < SYMBOL_COUNT;
    }

    private boolean isFilterCount(int filters) {
        return filters >= 0 && filters <= state.pipelineLength;
    }

    private boolean isPosition(int position) {
        return position >= 0 && position < state.pipelineLength;
    }

    private boolean isLastPosition(int position) {
        return position == state.pipelineLength - 1;
    }

    /** The forest is grown anew for each call: one forest is enough then, and no edit has to keep it up to date. */
    private int growForest(int filters) {
        forest.reset(setup.operators());
        for (int position = 0; position < filters; position++) {
            forest.apply(setup, state.filters[position]);
        }
        return forest.countTrees();
    }

    private boolean selectTree(int filters, int rank) {
        if (rank >= growForest(filters)) {
            return false;
        }
        tree.select(forest, rank);
        return true;
    }

    private static int spanIndex(int low, int high) {
        return low * OPERAND_LIMIT + high;
    }

    private static final class SetupText {
        private final char[] characters = new char[TEXT_LIMIT];
        private int length = 0;

        boolean put(char character) {
            if (length >= TEXT_LIMIT) {
                return false;
            }
            characters[length] = character;
            length++;
            return true;
        }

        void empty() {
            length = 0;
        }

        /**
         * Reads the text into a setup, and returns the index of the first malformed statement or NOT_FOUND. No token
         * has a ';', so each statement ends before the next one.
         */
        int parse(Setup into) {
            into.reset();
            int start = 0;
            for (int i = 0; i < length; i++) {
                if (characters[i] == ';') {
                    if (!parseStatement(start, i, into)) {
                        return start;
                    }
                    start = i + 1;
                }
            }
            return start < length ? start : NOT_FOUND;
        }

        private boolean parseStatement(int start, int end, Setup into) {
            if (hasWord("op", start, end)) {
                return parseDeclaration(start + 2, end, into);
            }
            return hasWord("expr", start, end) && parseExpression(start + 4, end, into);
        }

        private boolean hasWord(String word, int start, int end) {
            if (end - start < word.length()) {
                return false;
            }
            for (int i = 0; i < word.length(); i++) {
                if (characters[start + i] != word.charAt(i)) {
                    return false;
                }
            }
            return true;
        }

        private boolean parseDeclaration(int start, int end, Setup into) {
            if (end - start != 3) {
                return false;
            }
            int symbol = SYMBOLS.indexOf(characters[start]);
            char digit = characters[start + 1];
            int associativity = ASSOCIATIVITIES.indexOf(characters[start + 2]);
            if (symbol < 0 || digit < '0' || digit > '9' || associativity < 0) {
                return false;
            }
            into.priorities[symbol] = digit - '0';
            into.associativities[symbol] = associativity;
            return true;
        }

        private boolean parseExpression(int start, int end, Setup into) {
            int signs = end - start;
            if (into.hasExpression() || signs % 2 == 0 || signs > OPERAND_LIMIT + OPERATOR_LIMIT) {
                return false;
            }
            for (int i = 0; i < signs; i++) {
                char sign = characters[start + i];
                boolean fits = i % 2 == 0 ? into.putOperand(i / 2, sign) : into.putOperator(i / 2, sign);
                if (!fits) {
                    return false;
                }
            }
            into.operands = signs / 2 + 1;
            return true;
        }
    }

    /** What a setup text says: the declared symbols, and the expression. */
    private static final class Setup {
        private final int[] priorities = new int[SYMBOL_COUNT];
        private final int[] associativities = new int[SYMBOL_COUNT];
        private final int[] symbols = new int[OPERATOR_LIMIT];
        private final int[] letters = new int[OPERAND_LIMIT];
        private int operands = 0;

        void reset() {
            Arrays.fill(priorities, UNDECLARED);
            operands = 0;
        }

        void copyFrom(Setup other) {
            System.arraycopy(other.priorities, 0, priorities, 0, SYMBOL_COUNT);
            System.arraycopy(other.associativities, 0, associativities, 0, SYMBOL_COUNT);
            System.arraycopy(other.symbols, 0, symbols, 0, OPERATOR_LIMIT);
            System.arraycopy(other.letters, 0, letters, 0, OPERAND_LIMIT);
            operands = other.operands;
        }

        boolean hasExpression() {
            return operands > 0;
        }

        int operators() {
            return hasExpression() ? operands - 1 : 0;
        }

        boolean isDeclared(int symbol) {
            return priorities[symbol] != UNDECLARED;
        }

        boolean putOperand(int operand, char sign) {
            if (sign < 'a' || sign > 'z') {
                return false;
            }
            letters[operand] = sign - 'a';
            return true;
        }

        boolean putOperator(int operator, char sign) {
            int symbol = SYMBOLS.indexOf(sign);
            if (symbol < 0 || !isDeclared(symbol)) {
                return false;
            }
            symbols[operator] = symbol;
            return true;
        }

        int operatorsWith(int symbol) {
            int set = 0;
            for (int operator = 0; operator < operators(); operator++) {
                if (symbols[operator] == symbol) {
                    set |= 1 << operator;
                }
            }
            return set;
        }
    }

    /** A filter as one int, so that a pipeline is a row of numbers that is copied at a stroke. */
    private static final class FilterCode {
        private static final int FIELD_BITS = 4;
        private static final int FIELD_MASK = 15;

        static int of(int kind, int symbol, int childSymbol, boolean rightSide) {
            int side = rightSide ? 1 : 0;
            return kind | (symbol << FIELD_BITS) | (childSymbol << (2 * FIELD_BITS)) | (side << (3 * FIELD_BITS));
        }

        static int kind(int filter) {
            return filter & FIELD_MASK;
        }

        /** The symbol of a PREFER or AVOID filter, the parent's symbol of a REJECT filter. */
        static int symbol(int filter) {
            return (filter >> FIELD_BITS) & FIELD_MASK;
        }

        static int childSymbol(int filter) {
            return (filter >> (2 * FIELD_BITS)) & FIELD_MASK;
        }

        static boolean isRightSide(int filter) {
            return ((filter >> (3 * FIELD_BITS)) & FIELD_MASK) == 1;
        }

        static boolean forbids(int filter, Setup setup, int parent, int child, boolean onRight) {
            int parentSymbol = setup.symbols[parent];
            int childSymbol = setup.symbols[child];
            int parentPriority = setup.priorities[parentSymbol];
            int childPriority = setup.priorities[childSymbol];
            switch (kind(filter)) {
                case PRIORITY:
                    return childPriority < parentPriority;
                case ASSOCIATIVITY:
                    int needed = onRight ? RIGHT_ASSOCIATIVE : LEFT_ASSOCIATIVE;
                    return childPriority == parentPriority && setup.associativities[parentSymbol] != needed;
                case REJECT:
                    return onRight == isRightSide(filter)
                            && parentSymbol == symbol(filter)
                            && childSymbol == childSymbol(filter);
                default:
                    return false;
            }
        }
    }

    /** What the edits change: the pipeline and the variables. */
    private static final class EditState {
        private final int[] filters = new int[FILTER_LIMIT];
        private final int[] variables = new int[LETTER_COUNT];
        private int pipelineLength = 0;

        void reset() {
            pipelineLength = 0;
            for (int letter = 0; letter < LETTER_COUNT; letter++) {
                variables[letter] = letter + 1;
            }
        }

        void copyFrom(EditState other) {
            System.arraycopy(other.filters, 0, filters, 0, FILTER_LIMIT);
            System.arraycopy(other.variables, 0, variables, 0, LETTER_COUNT);
            pipelineLength = other.pipelineLength;
        }

        void insert(int position, int filter) {
            for (int i = pipelineLength; i > position; i--) {
                filters[i] = filters[i - 1];
            }
            filters[position] = filter;
            pipelineLength++;
        }

        void delete(int position) {
            pipelineLength--;
            for (int i = position; i < pipelineLength; i++) {
                filters[i] = filters[i + 1];
            }
        }

        void swapWithNext(int position) {
            int filter = filters[position];
            filters[position] = filters[position + 1];
            filters[position + 1] = filter;
        }
    }

    /** The states before the latest edits, the oldest one first. */
    private static final class History {
        private final EditState[] states = new EditState[HISTORY_LIMIT];
        private int size = 0;

        History() {
            for (int i = 0; i < HISTORY_LIMIT; i++) {
                states[i] = new EditState();
            }
        }

        void reset() {
            size = 0;
        }

        void save(EditState state) {
            if (size >= HISTORY_LIMIT) {
                dropOldest();
            }
            states[size].copyFrom(state);
            size++;
        }

        private void dropOldest() {
            EditState oldest = states[0];
            for (int i = 1; i < HISTORY_LIMIT; i++) {
                states[i - 1] = states[i];
            }
            states[HISTORY_LIMIT - 1] = oldest;
            size--;
        }

        boolean restore(EditState state) {
            if (size <= 0) {
                return false;
            }
            size--;
            state.copyFrom(states[size]);
            return true;
        }
    }

    /**
     * The trees that some filters have left, packed: for each span the set of the roots that are not discarded, and
     * for each operator the sets of its allowed children on either side.
     */
    private static final class Forest {
        private int operators = 0;
        private final int[] roots = new int[SPAN_COUNT];
        private final int[] leftChildren = new int[OPERATOR_LIMIT];
        private final int[] rightChildren = new int[OPERATOR_LIMIT];
        private final int[] counts = new int[SPAN_COUNT * OPERATOR_LIMIT];

        /** Makes the forest the one that no filter has touched; countTrees is to be called before it is asked. */
        void reset(int operatorsOfExpression) {
            operators = operatorsOfExpression;
            Arrays.fill(roots, EVERY_OPERATOR);
            Arrays.fill(leftChildren, EVERY_OPERATOR);
            Arrays.fill(rightChildren, EVERY_OPERATOR);
        }

        void apply(Setup setup, int filter) {
            switch (FilterCode.kind(filter)) {
                case PREFER:
                    keepRoots(setup.operatorsWith(FilterCode.symbol(filter)));
                    break;
                case AVOID:
                    keepRoots(~setup.operatorsWith(FilterCode.symbol(filter)));
                    break;
                default:
                    forbidChildren(setup, filter);
                    break;
            }
        }

        private void forbidChildren(Setup setup, int filter) {
            for (int parent = 0; parent < operators; parent++) {
                for (int child = 0; child < operators; child++) {
                    if (FilterCode.forbids(filter, setup, parent, child, false)) {
                        leftChildren[parent] &= ~(1 << child);
                    }
                    if (FilterCode.forbids(filter, setup, parent, child, true)) {
                        rightChildren[parent] &= ~(1 << child);
                    }
                }
            }
        }

        /**
         * Discards from each span the roots outside a set, if one in the set has a derivation. A span counts its
         * derivations by what the filter has left of the shorter ones, so the shorter ones go first.
         */
        private void keepRoots(int kept) {
            for (int length = 1; length <= operators; length++) {
                for (int low = 0; low + length <= operators; low++) {
                    int high = low + length;
                    countSpan(low, high);
                    if (treesOf(low, high, kept) > 0) {
                        roots[spanIndex(low, high)] &= kept;
                        countSpan(low, high);
                    }
                }
            }
        }

        int countTrees() {
            for (int length = 1; length <= operators; length++) {
                for (int low = 0; low + length <= operators; low++) {
                    countSpan(low, low + length);
                }
            }
            return treesOf(0, operators, EVERY_OPERATOR);
        }

        private void countSpan(int low, int high) {
            int span = spanIndex(low, high);
            for (int root = low; root < high; root++) {
                int trees = 0;
                if (isIn(root, roots[span])) {
                    trees = treesOf(low, root, leftChildren[root]) * treesOf(root + 1, high, rightChildren[root]);
                }
                counts[span * OPERATOR_LIMIT + root] = trees;
            }
        }

        /** The number of trees of a span whose root is in a set; an empty span has its leaf, whatever the set. */
        int treesOf(int low, int high, int allowed) {
            if (low >= high) {
                return 1;
            }
            int first = spanIndex(low, high) * OPERATOR_LIMIT;
            int trees = 0;
            for (int root = low; root < high; root++) {
                if (isIn(root, allowed)) {
                    trees += counts[first + root];
                }
            }
            return trees;
        }

        int derivationsOf(int low, int high, int root, int allowed) {
            return isIn(root, allowed) ? counts[spanIndex(low, high) * OPERATOR_LIMIT + root] : 0;
        }

        boolean allowsRoot(int low, int high, int root) {
            return isIn(root, roots[spanIndex(low, high)]);
        }

        static boolean isIn(int operator, int set) {
            return ((set >> operator) & 1) == 1;
        }
    }

    /** One tree of the expression: the spans of its subtrees with their roots. */
    private static final class Tree {
        private int operators = 0;
        private final int[] roots = new int[SPAN_COUNT];
        private final int[] ranks = new int[SPAN_COUNT];
        private final int[] allowedRoots = new int[SPAN_COUNT];
        private final int[] ranksBelowRoot = new int[SPAN_COUNT];
        private final long[] results = new long[SPAN_COUNT];

        /** Takes the tree with a rank, which is below the forest's number of trees. */
        void select(Forest forest, int rank) {
            operators = forest.operators;
            Arrays.fill(ranks, ABSENT);
            putSubtree(0, operators, EVERY_OPERATOR, rank);
            for (int length = operators; length > 0; length--) {
                for (int low = 0; low + length <= operators; low++) {
                    if (hasSubtree(low, low + length)) {
                        splitSubtree(forest, low, low + length);
                    }
                }
            }
        }

        private boolean hasSubtree(int low, int high) {
            return ranks[spanIndex(low, high)] != ABSENT;
        }

        private void putSubtree(int low, int high, int allowed, int rank) {
            int span = spanIndex(low, high);
            allowedRoots[span] = allowed;
            ranks[span] = rank;
        }

        /** Roots come first in the order, then left subtrees, then right ones: so the rank splits by division. */
        private void splitSubtree(Forest forest, int low, int high) {
            int span = spanIndex(low, high);
            int allowed = allowedRoots[span];
            int rest = ranks[span];
            int root = low;
            while (root < high - 1 && rest >= forest.derivationsOf(low, high, root, allowed)) {
                rest -= forest.derivationsOf(low, high, root, allowed);
                root++;
            }
            roots[span] = root;
            int rightTrees = forest.treesOf(root + 1, high, forest.rightChildren[root]);
            if (rightTrees > 0) {
                putSubtree(low, root, forest.leftChildren[root], rest / rightTrees);
                putSubtree(root + 1, high, forest.rightChildren[root], rest % rightTrees);
            }
        }

        /** A subtree has as many operators as its span is long, so that whole subtrees are stepped over. */
        int operatorInPreorder(int preorder) {
            int low = 0;
            int high = operators;
            int rest = preorder;
            for (int depth = 0; depth < operators && rest < high - low; depth++) {
                int root = roots[spanIndex(low, high)];
                if (rest == 0) {
                    return root;
                }
                rest--;
                if (rest < root - low) {
                    high = root;
                } else {
                    rest -= root - low;
                    low = root + 1;
                }
            }
            return NOT_FOUND;
        }

        boolean survives(Forest forest) {
            for (int length = 1; length <= operators; length++) {
                for (int low = 0; low + length <= operators; low++) {
                    if (hasSubtree(low, low + length) && !rootSurvives(forest, low, low + length)) {
                        return false;
                    }
                }
            }
            return true;
        }

        private boolean rootSurvives(Forest forest, int low, int high) {
            int root = roots[spanIndex(low, high)];
            return forest.allowsRoot(low, high, root)
                    && childSurvives(low, root, forest.leftChildren[root])
                    && childSurvives(root + 1, high, forest.rightChildren[root]);
        }

        private boolean childSurvives(int low, int high, int allowed) {
            return low >= high || Forest.isIn(roots[spanIndex(low, high)], allowed);
        }

        /** Only a forest that the tree survives in has a rank for it. */
        int rankIn(Forest forest) {
            for (int length = 1; length <= operators; length++) {
                for (int low = 0; low + length <= operators; low++) {
                    if (hasSubtree(low, low + length)) {
                        rankBelowRoot(forest, low, low + length);
                    }
                }
            }
            return rankOf(forest, 0, operators, EVERY_OPERATOR);
        }

        /** The rank among the trees with the same root comes first: which roots count is up to the operator above. */
        private void rankBelowRoot(Forest forest, int low, int high) {
            int span = spanIndex(low, high);
            int root = roots[span];
            int leftRank = rankOf(forest, low, root, forest.leftChildren[root]);
            int rightRank = rankOf(forest, root + 1, high, forest.rightChildren[root]);
            int rightTrees = forest.treesOf(root + 1, high, forest.rightChildren[root]);
            ranksBelowRoot[span] = leftRank * rightTrees + rightRank;
        }

        private int rankOf(Forest forest, int low, int high, int allowed) {
            if (low >= high) {
                return 0;
            }
            int span = spanIndex(low, high);
            int rank = ranksBelowRoot[span];
            for (int root = low; root < roots[span]; root++) {
                rank += forest.derivationsOf(low, high, root, allowed);
            }
            return rank;
        }

        long evaluate(Setup setup, int[] variables) {
            for (int operand = 0; operand <= operators; operand++) {
                results[spanIndex(operand, operand)] = variables[setup.letters[operand]];
            }
            for (int length = 1; length <= operators; length++) {
                for (int low = 0; low + length <= operators; low++) {
                    if (hasSubtree(low, low + length)) {
                        evaluateSubtree(setup, low, low + length);
                    }
                }
            }
            return results[spanIndex(0, operators)];
        }

        /** A failure on the left goes before one on the right, so that the first one met is the result. */
        private void evaluateSubtree(Setup setup, int low, int high) {
            int root = roots[spanIndex(low, high)];
            long left = results[spanIndex(low, root)];
            long right = results[spanIndex(root + 1, high)];
            long result;
            if (isFailure(left)) {
                result = left;
            } else if (isFailure(right)) {
                result = right;
            } else {
                result = combine(setup.symbols[root], left, right);
            }
            results[spanIndex(low, high)] = result;
        }

        private static boolean isFailure(long result) {
            return result == OVERFLOW || result == DIVISION_BY_ZERO;
        }

        /** Reckons in long, where no operation on two ints overflows. */
        private static long combine(int symbol, long left, long right) {
            switch (symbol) {
                case PLUS:
                    return intOrOverflow(left + right);
                case MINUS:
                    return intOrOverflow(left - right);
                case TIMES:
                    return intOrOverflow(left * right);
                case DIVIDE:
                    return right == 0 ? DIVISION_BY_ZERO : intOrOverflow(left / right);
                case REMAINDER:
                    return right == 0 ? DIVISION_BY_ZERO : left % right;
                case AND:
                    return left & right;
                case OR:
                    return left | right;
                case LESS:
                    return left < right ? 1 : 0;
                default:
                    return left == right ? 1 : 0;
            }
        }

        private static long intOrOverflow(long result) {
            return result == (int) result ? result : OVERFLOW;
        }
    }
}
