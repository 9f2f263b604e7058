/** Long runs of calls, the same on the program and on the model, whose answers must agree. */
public final class ModelTest {
    private static final String SYMBOLS = "+-*/%&|<=";
    private static final int RUNS = 400;
    /** The last turn may make five calls at once: no object has more than 512. */
    private static final int CALLS = 507;

    private final Due due;
    private final int run;
    private final int mostOperands;
    private final DisambiguationBench bench = new DisambiguationBench();
    private final Model model = new Model();
    private long seed;
    private int calls = 0;

    private ModelTest(Due due, int run) {
        this.due = due;
        this.run = run;
        this.seed = 88172645463325252L + run * 7919L;
        this.mostOperands = run % 40 == 0 ? 10 : run % 8 == 0 ? 8 : 6;
    }

    public static void main(String[] args) {
        Due due = new Due("ModelTest");
        for (int run = 0; run < RUNS && due.wrong() < 20; run++) {
            new ModelTest(due, run).play();
        }
        due.finish();
    }

    /** A number below a bound, by a generator of its own so that every machine plays the same runs. */
    private int pick(int bound) {
        seed ^= seed << 13;
        seed ^= seed >>> 7;
        seed ^= seed << 17;
        return (int) Long.remainderUnsigned(seed, bound);
    }

    private void check(String call, long got, long want) {
        calls++;
        due.is("run " + run + " call " + calls + ": " + call, got, want);
    }

    private void play() {
        int most = mostOperands > 8 ? 150 : CALLS;
        if (pick(4) != 0) {
            setup();
        }
        while (calls < most) {
            int choice = pick(100);
            if (choice < 2 && calls < most - 200) {
                setup();
            } else if (choice < 30) {
                edit();
            } else {
                ask();
            }
        }
    }

    // ---- setups

    private void setup() {
        if (pick(5) != 0) {
            check("clearText()", bench.clearText(), model.clearText());
        }
        String text = randomSetup();
        if (pick(4) == 0) {
            text = spoiled(text);
        }
        for (int i = 0; i < text.length(); i++) {
            char c = text.charAt(i);
            check("append(" + (int) c + ")", bench.append(c), model.append(c));
        }
        check("syntaxError() of " + text, bench.syntaxError(), model.syntaxError());
        check("load() of " + text, bench.load(), model.load());
        for (int i = -1; i <= 9; i++) {
            check("priorityOf(" + i + ")", bench.priorityOf(i), model.priorityOf(i));
        }
    }

    private String declaration(char symbol) {
        return "op" + symbol + (char) ('3' + pick(3)) + "lrn".charAt(pick(3)) + ";";
    }

    private String randomSetup() {
        StringBuilder text = new StringBuilder();
        StringBuilder used = new StringBuilder();
        int kinds = 1 + pick(5);
        for (int i = 0; i < kinds; i++) {
            char symbol = SYMBOLS.charAt(pick(9));
            used.append(symbol);
            text.append(declaration(symbol));
        }
        text.append("expr").append((char) ('a' + pick(26)));
        int operands = 1 + pick(mostOperands);
        for (int i = 1; i < operands; i++) {
            text.append(used.charAt(pick(kinds))).append((char) ('a' + pick(26)));
        }
        text.append(';');
        if (pick(3) == 0) {
            text.append(declaration(used.charAt(pick(kinds))));
        }
        return text.toString();
    }

    private String spoiled(String text) {
        int at = pick(text.length());
        String signs = SYMBOLS + ";;opexlrn09az";
        char sign = signs.charAt(pick(signs.length()));
        return switch (pick(4)) {
            case 0 -> text.substring(0, at) + text.substring(at + 1);
            case 1 -> text.substring(0, at) + sign + text.substring(at);
            case 2 -> text.substring(0, at);
            default -> text.substring(0, at) + sign + text.substring(at + 1);
        };
    }

    // ---- edits

    private int symbol() {
        if (pick(12) == 0) {
            return pick(11) - 1;
        }
        return model.operatorCount() == 0 ? pick(9) : model.symbolOf(pick(model.operatorCount()));
    }

    private int position() {
        return pick(model.filterCount() + 3) - 1;
    }

    private int number() {
        int[] edges = {0, 1, -1, 2, 1000000000, -1000000000, 1000000001, -1000000001, 65536, Integer.MIN_VALUE};
        return pick(2) == 0 ? edges[pick(edges.length)] : pick(50) - 25;
    }

    private void edit() {
        int p = position();
        int s = symbol();
        int c = symbol();
        boolean right = pick(2) == 0;
        switch (pick(12)) {
            case 0 -> check("addPriorityFilter(" + p + ")", bench.addPriorityFilter(p), model.addFilter(p, 0, 0, 0, false));
            case 1 -> check("addAssociativityFilter(" + p + ")", bench.addAssociativityFilter(p),
                    model.addFilter(p, 1, 0, 0, false));
            case 2, 3 -> check("addRejectFilter(" + p + ", " + s + ", " + c + ", " + right + ")",
                    bench.addRejectFilter(p, s, c, right), model.addFilter(p, 2, s, c, right));
            case 4, 5 -> check("addPreferFilter(" + p + ", " + s + ")", bench.addPreferFilter(p, s),
                    model.addFilter(p, 3, s, 0, false));
            case 6, 7 -> check("addAvoidFilter(" + p + ", " + s + ")", bench.addAvoidFilter(p, s),
                    model.addFilter(p, 4, s, 0, false));
            case 8 -> check("removeFilter(" + p + ")", bench.removeFilter(p), model.removeFilter(p));
            case 9 -> check("swapFilters(" + p + ")", bench.swapFilters(p), model.swapFilters(p));
            case 10 -> setVariable();
            default -> check("undo()", bench.undo(), model.undo());
        }
    }

    private void setVariable() {
        int letter = pick(28) - 1;
        int value = number();
        check("setVariable(" + letter + ", " + value + ")", bench.setVariable(letter, value),
                model.setVariable(letter, value));
    }

    // ---- questions

    private int filters() {
        return pick(6) == 0 ? position() : pick(model.filterCount() + 1);
    }

    private int rank(int filters) {
        int trees = model.treeCount(filters);
        return pick(8) == 0 ? trees - 2 + pick(5) : pick(Math.max(trees, 1));
    }

    private void ask() {
        int f = filters();
        switch (pick(14)) {
            case 0, 1 -> check("treeCount(" + f + ")", bench.treeCount(f), model.treeCount(f));
            case 2, 3 -> askDerivations(f);
            case 4 -> askOrder();
            case 5, 6 -> askOperator(f);
            case 7 -> askDiscarder();
            case 8, 9 -> askRank(f);
            case 10, 11 -> askValue(f);
            case 12 -> check("distinctValues(" + f + ")", bench.distinctValues(f), model.distinctValues(f));
            default -> askSizes();
        }
    }

    private void askDerivations(int f) {
        int n = model.operatorCount();
        int low = pick(8) == 0 ? pick(n + 3) - 1 : pick(Math.max(n, 1));
        int high = pick(8) == 0 ? pick(n + 3) - 1 : low + 1 + pick(Math.max(n - low, 1));
        int root = pick(8) == 0 ? pick(n + 3) - 1 : low + pick(Math.max(high - low, 1));
        check("derivations(" + f + ", " + low + ", " + high + ", " + root + ")", bench.derivations(f, low, high, root),
                model.derivations(f, low, high, root));
    }

    private void askOrder() {
        int p = position();
        check("orderMatters(" + p + ")", bench.orderMatters(p), model.orderMatters(p));
    }

    private void askOperator(int f) {
        int rank = rank(f);
        int preorder = pick(model.operatorCount() + 3) - 1;
        check("operatorAt(" + f + ", " + rank + ", " + preorder + ")", bench.operatorAt(f, rank, preorder),
                model.operatorAt(f, rank, preorder));
    }

    private void askDiscarder() {
        int rank = rank(0);
        check("discardedBy(" + rank + ")", bench.discardedBy(rank), model.discardedBy(rank));
    }

    private void askRank(int f) {
        int rank = rank(0);
        check("survivorRank(" + f + ", " + rank + ")", bench.survivorRank(f, rank), model.survivorRank(f, rank));
    }

    private void askValue(int f) {
        int rank = rank(f);
        check("value(" + f + ", " + rank + ")", bench.value(f, rank), model.value(f, rank));
    }

    private void askSizes() {
        int p = position();
        int operator = pick(model.operatorCount() + 2) - 1;
        check("symbolOf(" + operator + ")", bench.symbolOf(operator), model.symbolOf(operator));
        check("operatorCount()", bench.operatorCount(), model.operatorCount());
        check("filterCount()", bench.filterCount(), model.filterCount());
        check("historySize()", bench.historySize(), model.historySize());
        check("filterKind(" + p + ")", bench.filterKind(p), model.filterKind(p));
    }
}
