/** Promises 18 to 20: counting trees and derivations, and the order of filters. */
public final class CountsTest {
    private static final Due DUE = new Due("CountsTest");
    private static final int PLUS = 0, MINUS = 1, TIMES = 2, LESS = 7;

    /** + is operator 0, * is operator 1: tree 0 is a+(b*c), tree 1 is (a+b)*c. */
    private static final String SUM_OF_PRODUCT = "op+1l;op*2l;expra+b*c;";

    public static void main(String[] args) {
        treeCountWithoutFilters();
        treeCountRange();
        priority();
        associativity();
        associativityOfTheParent();
        reject();
        prefer();
        avoid();
        discardedRootsStayDiscarded();
        filtersSeeTheirOwnShorterSpans();
        laterFiltersHaveNoInfluence();
        derivations();
        derivationsUnderFilters();
        derivationsRange();
        orderMatters();
        orderMattersToTheCountAlone();
        orderMattersToTheWholePipeline();
        orderMattersRange();
        DUE.finish();
    }

    private static void treeOfFilters(String what, DisambiguationBench bench, int filters, int... roots) {
        DUE.is(what + ": treeCount(" + filters + ")", bench.treeCount(filters), roots.length);
        for (int rank = 0; rank < roots.length; rank++) {
            DUE.is(what + ": root of tree " + rank, bench.operatorAt(filters, rank, 0), roots[rank]);
        }
    }

    // ---- promise 18

    private static void treeCountWithoutFilters() {
        int[] catalan = {1, 1, 2, 5, 14, 42, 132, 429, 1430, 4862, 16796};
        StringBuilder text = new StringBuilder("op+1l;expra");
        for (int due : catalan) {
            DisambiguationBench bench = Due.loaded(text + ";");
            DUE.is("treeCount(0) of " + text, bench.treeCount(0), due);
            bench.addAssociativityFilter(0);
            DUE.is("treeCount(1) of " + text, bench.treeCount(1), 1);
            text.append("+a");
        }
    }

    private static void treeCountRange() {
        DisambiguationBench bench = new DisambiguationBench();
        for (int filters : new int[] {1, -1, Integer.MIN_VALUE, Integer.MAX_VALUE}) {
            DUE.is("treeCount(" + filters + ") of none", bench.treeCount(filters), -1);
        }
        for (int i = 0; i < 6; i++) {
            bench.addPriorityFilter(0);
        }
        DUE.is("treeCount(6)", bench.treeCount(6), 2);
        DUE.is("treeCount(7)", bench.treeCount(7), -1);
        DUE.is("treeCount(0)", bench.treeCount(0), 14);
    }

    private static void priority() {
        DisambiguationBench bench = Due.loaded(SUM_OF_PRODUCT);
        bench.addPriorityFilter(0);
        treeOfFilters("priority of a+b*c", bench, 1, 0);
        bench = Due.loaded("op+1l;op*2l;expra*b+c;");
        bench.addPriorityFilter(0);
        treeOfFilters("priority of a*b+c", bench, 1, 1);
        bench = Due.loaded("op+1l;op-1l;expra+b-c;");
        bench.addPriorityFilter(0);
        treeOfFilters("equal priorities", bench, 1, 0, 1);
        bench = Due.loaded("op+1l;op*2l;expra+b*c;op+3l;");
        bench.addPriorityFilter(0);
        treeOfFilters("priority declared behind the expression", bench, 1, 1);
    }

    private static void associativity() {
        DisambiguationBench bench = Due.loaded("op+1l;expra+b+c;");
        bench.addAssociativityFilter(0);
        treeOfFilters("left-associative", bench, 1, 1);
        bench = Due.loaded("op+1r;expra+b+c;");
        bench.addAssociativityFilter(0);
        treeOfFilters("right-associative", bench, 1, 0);
        bench = Due.loaded("op+1n;expra+b+c;");
        bench.addAssociativityFilter(0);
        treeOfFilters("non-associative", bench, 1);
        bench = Due.loaded("op+1n;op*2n;expra+b*c;");
        bench.addAssociativityFilter(0);
        treeOfFilters("different priorities", bench, 1, 0, 1);
    }

    private static void associativityOfTheParent() {
        String[] setups = {"op+1l;op-1r;", "op+1r;op-1l;", "op+1n;op-1l;", "op+1n;op-1r;", "op+1r;op-1n;", "op+1l;op-1l;"};
        int[][] due = {{}, {0, 1}, {1}, {}, {0}, {1}};
        for (int i = 0; i < setups.length; i++) {
            DisambiguationBench bench = Due.loaded(setups[i] + "expra+b-c;");
            bench.addAssociativityFilter(0);
            treeOfFilters("associativity of " + setups[i], bench, 1, due[i]);
        }
    }

    private static void reject() {
        int[][] due = {{1}, {0, 1}, {0}, {0, 1}};
        for (int i = 0; i < 4; i++) {
            DisambiguationBench bench = Due.loaded(SUM_OF_PRODUCT);
            boolean underPlus = i < 2;
            boolean rightSide = i == 0 || i == 3;
            bench.addRejectFilter(0, underPlus ? PLUS : TIMES, underPlus ? TIMES : PLUS, rightSide);
            treeOfFilters("reject number " + i, bench, 1, due[i]);
        }
        DisambiguationBench bench = Due.loaded("op+1l;expra+b+c;");
        bench.addRejectFilter(0, PLUS, PLUS, false);
        treeOfFilters("reject of + under + on the left", bench, 1, 0);
        bench.addRejectFilter(1, PLUS, PLUS, true);
        treeOfFilters("reject of + under + on either side", bench, 2);
        bench = Due.loaded("op+1l;expra+b+c;");
        bench.addRejectFilter(0, PLUS, MINUS, true);
        bench.addRejectFilter(0, MINUS, PLUS, true);
        treeOfFilters("reject of a symbol that is not there", bench, 2, 0, 1);
    }

    private static void prefer() {
        DisambiguationBench bench = new DisambiguationBench();
        bench.addPreferFilter(0, TIMES);
        treeOfFilters("prefer *", bench, 1, 1, 1);
        bench.addPreferFilter(1, LESS);
        DUE.is("prefer <, whose root is discarded from the whole", bench.treeCount(2), 1);
        bench = Due.loaded("op+1l;op*1l;expra+b*c+d;");
        bench.addPreferFilter(0, PLUS);
        treeOfFilters("prefer + of a+b*c+d", bench, 1, 0, 2);
        bench = new DisambiguationBench();
        bench.addPreferFilter(0, 3);
        DUE.is("prefer a symbol that is not there", bench.treeCount(1), 14);
        bench = Due.loaded(SUM_OF_PRODUCT);
        bench.addRejectFilter(0, TIMES, PLUS, false);
        bench.addPreferFilter(1, TIMES);
        treeOfFilters("prefer a root without a derivation", bench, 2, 0);
    }

    private static void avoid() {
        DisambiguationBench bench = Due.loaded("op+1l;op*1l;expra+b*c+d;");
        bench.addAvoidFilter(0, PLUS);
        treeOfFilters("avoid + of a+b*c+d", bench, 1, 1);
        bench.removeFilter(0);
        bench.addAvoidFilter(0, TIMES);
        treeOfFilters("avoid * of a+b*c+d", bench, 1, 0, 2);
        bench.removeFilter(0);
        bench.addAvoidFilter(0, MINUS);
        DUE.is("avoid a symbol that is not there", bench.treeCount(1), 5);
        bench = Due.loaded("op+1l;expra+b+c;");
        bench.addAvoidFilter(0, PLUS);
        treeOfFilters("avoid the only symbol", bench, 1, 0, 1);
        bench = Due.loaded(SUM_OF_PRODUCT);
        bench.addRejectFilter(0, TIMES, PLUS, false);
        bench.addAvoidFilter(1, PLUS);
        treeOfFilters("avoid where no other root has a derivation", bench, 2, 0);
    }

    private static void discardedRootsStayDiscarded() {
        DisambiguationBench bench = Due.loaded(SUM_OF_PRODUCT);
        bench.addPreferFilter(0, TIMES);
        bench.addRejectFilter(1, TIMES, PLUS, false);
        DUE.is("prefer *, then reject it", bench.treeCount(2), 0);
        bench.addPreferFilter(2, PLUS);
        DUE.is("prefer + after it is discarded", bench.treeCount(3), 0);
        bench = Due.loaded(SUM_OF_PRODUCT);
        bench.addAvoidFilter(0, PLUS);
        bench.addRejectFilter(1, TIMES, PLUS, false);
        DUE.is("avoid +, then reject the other", bench.treeCount(2), 0);
    }

    /** A * over a*b+c*d has a derivation only if the filter itself leaves + as the root of a shorter span. */
    private static void filtersSeeTheirOwnShorterSpans() {
        for (boolean prefer : new boolean[] {true, false}) {
            DisambiguationBench bench = Due.loaded("op+1l;op*1l;expra*b+c*d;");
            bench.addRejectFilter(0, TIMES, TIMES, true);
            bench.addRejectFilter(1, TIMES, TIMES, false);
            DUE.is("a*b+c*d without * under *", bench.treeCount(2), 3);
            if (prefer) {
                bench.addPreferFilter(2, TIMES);
            } else {
                bench.addAvoidFilter(2, PLUS);
            }
            treeOfFilters("shorter spans first", bench, 3, 1);
            DUE.is("derivations(3, 0, 2, 1)", bench.derivations(3, 0, 2, 1), 0);
            DUE.is("derivations(3, 0, 2, 0)", bench.derivations(3, 0, 2, 0), 1);
            DUE.is("derivations(3, 0, 3, 0)", bench.derivations(3, 0, 3, 0), 0);
        }
    }

    private static void laterFiltersHaveNoInfluence() {
        DisambiguationBench bench = Due.loaded(SUM_OF_PRODUCT);
        bench.addPreferFilter(0, TIMES);
        DUE.is("treeCount(1) of prefer alone", bench.treeCount(1), 1);
        bench.addRejectFilter(1, TIMES, PLUS, false);
        DUE.is("treeCount(1) with a reject behind", bench.treeCount(1), 1);
        DUE.is("derivations(1, 0, 2, 0)", bench.derivations(1, 0, 2, 0), 0);
        DUE.is("derivations(1, 0, 2, 1)", bench.derivations(1, 0, 2, 1), 1);
        DUE.is("derivations(2, 0, 2, 1)", bench.derivations(2, 0, 2, 1), 0);
    }

    // ---- promise 19

    private static void derivations() {
        DisambiguationBench bench = Due.loaded("op+1l;expra+b+c+d+e;");
        int[] whole = {5, 2, 2, 5};
        int[] three = {2, 1, 2};
        for (int root = 0; root < 4; root++) {
            DUE.is("derivations(0, 0, 4, " + root + ")", bench.derivations(0, 0, 4, root), whole[root]);
            DUE.is("derivations of one operator", bench.derivations(0, root, root + 1, root), 1);
        }
        for (int i = 0; i < 3; i++) {
            DUE.is("derivations(0, 0, 3, " + i + ")", bench.derivations(0, 0, 3, i), three[i]);
            DUE.is("derivations(0, 1, 4, " + (i + 1) + ")", bench.derivations(0, 1, 4, i + 1), three[i]);
        }
        bench = Due.loaded("op+1l;expra+b+c+d+e+f+g+h+i+j+k;");
        DUE.is("derivations(0, 0, 10, 0) of ten", bench.derivations(0, 0, 10, 0), 4862);
        DUE.is("derivations(0, 0, 10, 4) of ten", bench.derivations(0, 0, 10, 4), 14 * 42);
        DUE.is("derivations(0, 0, 10, 9) of ten", bench.derivations(0, 0, 10, 9), 4862);
    }

    private static void derivationsUnderFilters() {
        DisambiguationBench bench = new DisambiguationBench();
        bench.addPriorityFilter(0);
        DUE.is("- alone, which may not stand under *", bench.derivations(1, 0, 1, 0), 1);
        DUE.is("* over -", bench.derivations(1, 0, 2, 1), 0);
        DUE.is("- over *", bench.derivations(1, 0, 2, 0), 1);
        DUE.is("< over the rest", bench.derivations(1, 0, 4, 3), 2);
        DUE.is("* over -, no filter", bench.derivations(0, 0, 2, 1), 1);
        bench.addPreferFilter(1, TIMES);
        DUE.is("- over *, * without a derivation", bench.derivations(2, 0, 2, 0), 1);
        bench.swapFilters(0);
        DUE.is("- discarded from its span", bench.derivations(1, 0, 2, 0), 0);
        DUE.is("* preferred in the span", bench.derivations(1, 0, 2, 1), 1);
        DUE.is("- in a span of its own", bench.derivations(1, 0, 1, 0), 1);
        DUE.is("* preferred, then forbidden over -", bench.derivations(2, 0, 2, 1), 0);
    }

    private static void derivationsRange() {
        DisambiguationBench bench = new DisambiguationBench();
        int least = Integer.MIN_VALUE;
        int most = Integer.MAX_VALUE;
        int[][] calls = {
            {-1, 0, 4, 0}, {1, 0, 4, 0}, {0, -1, 4, 0}, {0, 0, 0, 0}, {0, 0, 5, 0}, {0, 0, 4, 4}, {0, 0, 4, -1}, {0, 1, 3, 0},
            {0, 1, 3, 3}, {0, 3, 2, 2}, {0, 4, 5, 4}, {0, 4, 4, 4}, {0, 2, 2, 2}, {0, least, 4, 0}, {0, 0, most, 0},
            {0, 0, least, 0}, {0, most, least, 0}, {0, 0, 4, most}, {0, 0, 4, least}, {most, 0, 4, 0}, {least, 0, 4, 0},
        };
        for (int[] c : calls) {
            DUE.is("derivations(" + c[0] + ", " + c[1] + ", " + c[2] + ", " + c[3] + ")",
                    bench.derivations(c[0], c[1], c[2], c[3]), -1);
        }
        bench = Due.loaded("expra;");
        DUE.is("derivations(0, 0, 0, 0) of one operand", bench.derivations(0, 0, 0, 0), -1);
        DUE.is("derivations(0, 0, 1, 0) of one operand", bench.derivations(0, 0, 1, 0), -1);
    }

    // ---- promise 20

    private static void orderMatters() {
        DisambiguationBench bench = Due.loaded(SUM_OF_PRODUCT);
        bench.addPreferFilter(0, TIMES);
        bench.addRejectFilter(1, TIMES, PLUS, false);
        DUE.is("orderMatters(0) of prefer and reject", bench.orderMatters(0), 1);
        DUE.is("filterKind(0) afterwards", bench.filterKind(0), 3);
        DUE.is("filterKind(1) afterwards", bench.filterKind(1), 2);
        DUE.is("treeCount(2) afterwards", bench.treeCount(2), 0);
        DUE.is("historySize() afterwards", bench.historySize(), 2);
        bench.swapFilters(0);
        DUE.is("orderMatters(0) of reject and prefer", bench.orderMatters(0), 1);
        DUE.is("treeCount(2) of reject and prefer", bench.treeCount(2), 1);
        bench.removeFilter(1);
        bench.addRejectFilter(1, PLUS, TIMES, true);
        DUE.is("orderMatters(0) of two rejects", bench.orderMatters(0), 0);
        bench = new DisambiguationBench();
        bench.addPriorityFilter(0);
        bench.addAssociativityFilter(1);
        DUE.is("orderMatters(0) of priority and associativity", bench.orderMatters(0), 0);
    }

    /** "1 if treeCount of the whole pipeline would be another one": other trees that are as many do not count. */
    private static void orderMattersToTheCountAlone() {
        DisambiguationBench bench = Due.loaded(SUM_OF_PRODUCT);
        bench.addPreferFilter(0, PLUS);
        bench.addPreferFilter(1, TIMES);
        treeOfFilters("prefer +, then *", bench, 2, 0);
        DUE.is("orderMatters(0) of prefer + and prefer *", bench.orderMatters(0), 0);
        bench.swapFilters(0);
        treeOfFilters("prefer *, then +", bench, 2, 1);
        DUE.is("orderMatters(0) of prefer * and prefer +", bench.orderMatters(0), 0);
    }

    private static void orderMattersToTheWholePipeline() {
        DisambiguationBench bench = Due.loaded(SUM_OF_PRODUCT);
        bench.addPreferFilter(0, TIMES);
        bench.addRejectFilter(1, TIMES, PLUS, false);
        bench.addRejectFilter(2, PLUS, TIMES, true);
        DUE.is("orderMatters(0) where a third filter leaves nothing", bench.orderMatters(0), 0);
        DUE.is("orderMatters(1) of two rejects", bench.orderMatters(1), 0);
        bench.removeFilter(2);
        bench.addPriorityFilter(0);
        DUE.is("orderMatters(1) behind a priority filter", bench.orderMatters(1), 0);
        bench.removeFilter(0);
        bench.addPriorityFilter(2);
        DUE.is("orderMatters(0) before a priority filter", bench.orderMatters(0), 1);
    }

    private static void orderMattersRange() {
        DisambiguationBench bench = new DisambiguationBench();
        DUE.is("orderMatters(0) of none", bench.orderMatters(0), -1);
        bench.addPriorityFilter(0);
        DUE.is("orderMatters(0) of one", bench.orderMatters(0), -2);
        bench.addPriorityFilter(0);
        DUE.is("orderMatters(0) of two", bench.orderMatters(0), 0);
        DUE.is("orderMatters(1) of two", bench.orderMatters(1), -2);
        for (int position : new int[] {2, -1, Integer.MIN_VALUE, Integer.MAX_VALUE}) {
            DUE.is("orderMatters(" + position + ") of two", bench.orderMatters(position), -1);
        }
    }
}
