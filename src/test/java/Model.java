import java.util.ArrayDeque;
import java.util.ArrayList;
import java.util.Arrays;
import java.util.Deque;
import java.util.HashMap;
import java.util.HashSet;
import java.util.List;
import java.util.Map;
import java.util.Set;
import java.util.regex.Matcher;
import java.util.regex.Pattern;

/**
 * The document read as plainly as can be: every tree stands as an object of its own, and survival is decided by
 * looking at each tree. Slow, and made to share no idea with the program that it is compared with.
 */
final class Model {
    private static final long OVERFLOW = 1L << 40, DIVISION_BY_ZERO = 1L << 41, NO_VALUE = 1L << 42;
    private static final String SYMBOLS = "+-*/%&|<=";
    private static final Pattern OP = Pattern.compile("op([-+*/%&|<=])([0-9])([lrn])");
    private static final Pattern EXPR = Pattern.compile("expr([a-z](?:[-+*/%&|<=][a-z]){0,10})");

    record Node(int root, int low, int high, Node left, Node right) {}

    record Filter(int kind, int symbol, int childSymbol, boolean rightSide) {}

    record Snapshot(List<Filter> pipeline, int[] variables) {}

    private static final class Failure extends RuntimeException {
        final long code;

        Failure(long code) {
            super(null, null, false, false);
            this.code = code;
        }
    }

    private final StringBuilder text = new StringBuilder();
    private Map<Character, String> declared = new HashMap<>();
    private String expression;
    private List<Filter> pipeline = new ArrayList<>();
    private int[] variables = new int[26];
    private final Deque<Snapshot> history = new ArrayDeque<>();
    private final Map<String, List<Node>> forest = new HashMap<>();
    private final Map<List<Filter>, Set<String>> discards = new HashMap<>();

    Model() {
        text.append("op+4l;op-4l;op*6l;op<2n;expra-b*c+d<e;");
        load();
        text.setLength(0);
    }

    // ---- setup

    int append(int character) {
        if (character < 32 || character > 126) {
            return -1;
        }
        if (text.length() == 200) {
            return -3;
        }
        text.append((char) character);
        return text.length();
    }

    int clearText() {
        int length = text.length();
        text.setLength(0);
        return length;
    }

    private int parse(Map<Character, String> declarations, StringBuilder expr) {
        String rest = text.toString();
        int start = 0;
        boolean seen = false;
        while (!rest.isEmpty()) {
            int end = rest.indexOf(';');
            if (end < 0) {
                return start;
            }
            String statement = rest.substring(0, end);
            Matcher op = OP.matcher(statement);
            Matcher ex = EXPR.matcher(statement);
            if (op.matches()) {
                declarations.put(op.group(1).charAt(0), op.group(2) + op.group(3));
            } else if (ex.matches() && !seen) {
                seen = true;
                expr.append(ex.group(1));
                for (int i = 1; i < expr.length(); i += 2) {
                    if (!declarations.containsKey(expr.charAt(i))) {
                        return start;
                    }
                }
            } else {
                return start;
            }
            rest = rest.substring(end + 1);
            start += end + 1;
        }
        return -4;
    }

    int syntaxError() {
        return parse(new HashMap<>(), new StringBuilder());
    }

    int load() {
        Map<Character, String> declarations = new HashMap<>();
        StringBuilder expr = new StringBuilder();
        if (parse(declarations, expr) != -4 || expr.length() == 0) {
            return -2;
        }
        declared = declarations;
        expression = expr.toString();
        pipeline = new ArrayList<>();
        history.clear();
        forest.clear();
        discards.clear();
        for (int i = 0; i < 26; i++) {
            variables[i] = i + 1;
        }
        return operatorCount();
    }

    // ---- pipeline

    private void remember() {
        history.addLast(new Snapshot(new ArrayList<>(pipeline), variables.clone()));
        if (history.size() > 4) {
            history.removeFirst();
        }
    }

    int addFilter(int position, int kind, int symbol, int childSymbol, boolean rightSide) {
        if (position < 0 || position > pipeline.size() || symbol < 0 || symbol > 8 || childSymbol < 0
                || childSymbol > 8) {
            return -1;
        }
        if (pipeline.size() == 6) {
            return -3;
        }
        remember();
        pipeline.add(position, new Filter(kind, symbol, childSymbol, rightSide));
        return pipeline.size();
    }

    private boolean exists(int position) {
        return position >= 0 && position < pipeline.size();
    }

    int removeFilter(int position) {
        if (!exists(position)) {
            return -1;
        }
        remember();
        pipeline.remove(position);
        return pipeline.size();
    }

    private static List<Filter> swapped(List<Filter> filters, int position) {
        List<Filter> result = new ArrayList<>(filters);
        result.add(position, result.remove(position + 1));
        return result;
    }

    int swapFilters(int position) {
        if (!exists(position)) {
            return -1;
        }
        if (position + 1 == pipeline.size()) {
            return -2;
        }
        remember();
        pipeline = swapped(pipeline, position);
        return pipeline.get(position).kind();
    }

    int filterKind(int position) {
        return exists(position) ? pipeline.get(position).kind() : -1;
    }

    int setVariable(int letter, int value) {
        if (letter < 0 || letter > 25 || value < -1000000000 || value > 1000000000) {
            return -1;
        }
        remember();
        boolean same = variables[letter] == value;
        variables[letter] = value;
        return same ? 0 : 1;
    }

    int undo() {
        if (history.isEmpty()) {
            return -2;
        }
        Snapshot last = history.removeLast();
        pipeline = last.pipeline();
        variables = last.variables();
        return history.size();
    }

    // ---- operators and sizes

    private char sign(int operator) {
        return expression.charAt(2 * operator + 1);
    }

    int symbolOf(int operator) {
        return operator < 0 || operator >= operatorCount() ? -1 : SYMBOLS.indexOf(sign(operator));
    }

    int priorityOf(int symbol) {
        if (symbol < 0 || symbol > 8) {
            return -1;
        }
        String declaration = declared.get(SYMBOLS.charAt(symbol));
        return declaration == null ? -4 : declaration.charAt(0) - '0';
    }

    int operatorCount() {
        return expression.length() / 2;
    }

    int filterCount() {
        return pipeline.size();
    }

    int historySize() {
        return history.size();
    }

    // ---- trees

    /** All trees of a span in their order; null is the leaf. */
    private List<Node> trees(int low, int high) {
        if (low == high) {
            return Arrays.asList((Node) null);
        }
        List<Node> known = forest.get(low + "," + high);
        if (known != null) {
            return known;
        }
        List<Node> all = new ArrayList<>();
        for (int root = low; root < high; root++) {
            for (Node left : trees(low, root)) {
                for (Node right : trees(root + 1, high)) {
                    all.add(new Node(root, low, high, left, right));
                }
            }
        }
        forest.put(low + "," + high, all);
        return all;
    }

    private boolean forbids(Filter filter, int parent, int child, boolean rightSide) {
        String p = declared.get(sign(parent));
        String c = declared.get(sign(child));
        if (filter.kind() == 0) {
            return c.charAt(0) < p.charAt(0);
        }
        if (filter.kind() == 1) {
            boolean onThisSide = p.charAt(1) == 'n' || p.charAt(1) == 'l' && rightSide || p.charAt(1) == 'r' && !rightSide;
            return c.charAt(0) == p.charAt(0) && onThisSide;
        }
        return filter.kind() == 2 && filter.rightSide() == rightSide && symbolOf(parent) == filter.symbol()
                && symbolOf(child) == filter.childSymbol();
    }

    private static String place(int low, int high, int root) {
        return low + "," + high + ":" + root;
    }

    private boolean pairsAllowed(Node node, Filter filter) {
        if (node == null) {
            return true;
        }
        boolean left = node.left() == null || !forbids(filter, node.root(), node.left().root(), false);
        boolean right = node.right() == null || !forbids(filter, node.root(), node.right().root(), true);
        return left && right && pairsAllowed(node.left(), filter) && pairsAllowed(node.right(), filter);
    }

    private static boolean rootsKept(Node node, Set<String> discarded) {
        return node == null || !discarded.contains(place(node.low(), node.high(), node.root()))
                && rootsKept(node.left(), discarded) && rootsKept(node.right(), discarded);
    }

    private boolean survives(Node tree, List<Filter> filters) {
        for (int i = 0; i < filters.size(); i++) {
            if (!pairsAllowed(tree, filters.get(i)) || !rootsKept(tree, discardedByLast(filters.subList(0, i + 1)))) {
                return false;
            }
        }
        return true;
    }

    /** What the last of some filters discards from the spans. */
    private Set<String> discardedByLast(List<Filter> filters) {
        List<Filter> key = new ArrayList<>(filters);
        Set<String> known = discards.get(key);
        if (known != null) {
            return known;
        }
        Filter last = key.get(key.size() - 1);
        Set<String> gone = new HashSet<>();
        if (last.kind() >= 3) {
            for (int length = 1; length <= operatorCount(); length++) {
                for (int low = 0; low + length <= operatorCount(); low++) {
                    discardInSpan(key.subList(0, key.size() - 1), last, low, low + length, gone);
                }
            }
        }
        discards.put(key, gone);
        return gone;
    }

    private void discardInSpan(List<Filter> earlier, Filter last, int low, int high, Set<String> gone) {
        boolean wins = false;
        for (Node tree : trees(low, high)) {
            boolean favoured = (symbolOf(tree.root()) == last.symbol()) == (last.kind() == 3);
            wins = wins || favoured && rootsKept(tree.left(), gone) && rootsKept(tree.right(), gone)
                    && survives(tree, earlier);
        }
        for (int root = low; root < high && wins; root++) {
            if ((symbolOf(root) == last.symbol()) != (last.kind() == 3)) {
                gone.add(place(low, high, root));
            }
        }
    }

    private List<Node> survivors(List<Filter> filters) {
        List<Node> left = new ArrayList<>();
        for (Node tree : trees(0, operatorCount())) {
            if (survives(tree, filters)) {
                left.add(tree);
            }
        }
        return left;
    }

    private boolean wrongCount(int filters) {
        return filters < 0 || filters > pipeline.size();
    }

    int treeCount(int filters) {
        return wrongCount(filters) ? -1 : survivors(pipeline.subList(0, filters)).size();
    }

    int derivations(int filters, int low, int high, int root) {
        if (wrongCount(filters) || low < 0 || high <= low || high > operatorCount() || root < low || root >= high) {
            return -1;
        }
        int count = 0;
        for (Node tree : trees(low, high)) {
            if (tree.root() == root && survives(tree, pipeline.subList(0, filters))) {
                count++;
            }
        }
        return count;
    }

    int orderMatters(int position) {
        if (!exists(position)) {
            return -1;
        }
        if (position + 1 == pipeline.size()) {
            return -2;
        }
        return survivors(pipeline).size() == survivors(swapped(pipeline, position)).size() ? 0 : 1;
    }

    private static void preorder(Node node, List<Integer> into) {
        if (node != null) {
            into.add(node.root());
            preorder(node.left(), into);
            preorder(node.right(), into);
        }
    }

    int operatorAt(int filters, int rank, int preorder) {
        if (wrongCount(filters) || rank < 0 || preorder < 0) {
            return -1;
        }
        List<Node> left = survivors(pipeline.subList(0, filters));
        List<Integer> operators = new ArrayList<>();
        if (rank < left.size()) {
            preorder(left.get(rank), operators);
        }
        return preorder < operators.size() ? operators.get(preorder) : -4;
    }

    int discardedBy(int rank) {
        if (rank < 0) {
            return -1;
        }
        List<Node> all = trees(0, operatorCount());
        if (rank >= all.size()) {
            return -4;
        }
        for (int i = 0; i < pipeline.size(); i++) {
            if (!survives(all.get(rank), pipeline.subList(0, i + 1))) {
                return i;
            }
        }
        return pipeline.size();
    }

    int survivorRank(int filters, int rank) {
        if (wrongCount(filters) || rank < 0) {
            return -1;
        }
        List<Node> all = trees(0, operatorCount());
        if (rank >= all.size() || !survives(all.get(rank), pipeline.subList(0, filters))) {
            return -4;
        }
        int before = 0;
        for (int i = 0; i < rank; i++) {
            before += survives(all.get(i), pipeline.subList(0, filters)) ? 1 : 0;
        }
        return before;
    }

    // ---- values

    private int evaluate(Node node, int operand) {
        if (node == null) {
            return variables[expression.charAt(2 * operand) - 'a'];
        }
        int a = evaluate(node.left(), node.low());
        int b = evaluate(node.right(), node.root() + 1);
        char sign = sign(node.root());
        if ((sign == '/' || sign == '%') && b == 0) {
            throw new Failure(DIVISION_BY_ZERO);
        }
        if (sign == '/' && a == Integer.MIN_VALUE && b == -1) {
            throw new Failure(OVERFLOW);
        }
        try {
            return switch (sign) {
                case '+' -> Math.addExact(a, b);
                case '-' -> Math.subtractExact(a, b);
                case '*' -> Math.multiplyExact(a, b);
                case '/' -> a / b;
                case '%' -> a % b;
                case '&' -> a & b;
                case '|' -> a | b;
                case '<' -> a < b ? 1 : 0;
                default -> a == b ? 1 : 0;
            };
        } catch (ArithmeticException overflow) {
            throw new Failure(OVERFLOW);
        }
    }

    private long result(Node tree) {
        try {
            return evaluate(tree, 0);
        } catch (Failure failure) {
            return failure.code;
        }
    }

    long value(int filters, int rank) {
        if (wrongCount(filters) || rank < 0) {
            return NO_VALUE;
        }
        List<Node> left = survivors(pipeline.subList(0, filters));
        return rank < left.size() ? result(left.get(rank)) : NO_VALUE;
    }

    int distinctValues(int filters) {
        if (wrongCount(filters)) {
            return -1;
        }
        List<Node> left = survivors(pipeline.subList(0, filters));
        if (left.size() > 300) {
            return -3;
        }
        Set<Long> results = new HashSet<>();
        for (Node tree : left) {
            results.add(result(tree));
        }
        return results.size();
    }
}
