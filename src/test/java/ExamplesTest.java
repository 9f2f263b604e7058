/** The document's four examples, call by call. Each of them begins with a new object. */
public final class ExamplesTest {
    private static final Due DUE = new Due("ExamplesTest");

    public static void main(String[] args) {
        prioritiesThenAssociativities();
        firstAndLastTreeAndPreferredOperator();
        refusedCalls();
        divisionThatFails();
        DUE.finish();
    }

    /** "1. Priorities, then associativities" */
    private static void prioritiesThenAssociativities() {
        DisambiguationBench bench = new DisambiguationBench();
        DUE.is("1: treeCount(0)", bench.treeCount(0), 14);
        DUE.is("1: addPriorityFilter(0)", bench.addPriorityFilter(0), 1);
        DUE.is("1: treeCount(1)", bench.treeCount(1), 2);
        DUE.is("1: addAssociativityFilter(1)", bench.addAssociativityFilter(1), 2);
        DUE.is("1: treeCount(2)", bench.treeCount(2), 1);
        DUE.is("1: value(2, 0)", bench.value(2, 0), 1);
    }

    /** "2. Values of the first and the last tree, and a preferred operator" */
    private static void firstAndLastTreeAndPreferredOperator() {
        DisambiguationBench bench = new DisambiguationBench();
        DUE.is("2: value(0, 0)", bench.value(0, 0), -7);
        DUE.is("2: value(0, 13)", bench.value(0, 13), 1);
        DUE.is("2: discardedBy(0)", bench.discardedBy(0), 0);
        DUE.is("2: addPreferFilter(0, 2)", bench.addPreferFilter(0, 2), 1);
        DUE.is("2: treeCount(1)", bench.treeCount(1), 2);
        DUE.is("2: discardedBy(0) under the filter", bench.discardedBy(0), 0);
        DUE.is("2: orderMatters(0)", bench.orderMatters(0), -2);
    }

    /** "3. Refused calls" */
    private static void refusedCalls() {
        DisambiguationBench bench = new DisambiguationBench();
        DUE.is("3: addAvoidFilter(1, 0)", bench.addAvoidFilter(1, 0), -1);
        DUE.is("3: addAvoidFilter(0, 9)", bench.addAvoidFilter(0, 9), -1);
        DUE.is("3: swapFilters(0)", bench.swapFilters(0), -1);
        DUE.is("3: undo()", bench.undo(), -2);
    }

    /** "4. A setup in which a division fails" */
    private static void divisionThatFails() {
        int[] text = {111, 112, 47, 51, 108, 59, 101, 120, 112, 114, 97, 47, 98, 59};
        DisambiguationBench bench = new DisambiguationBench();
        for (int i = 0; i < text.length; i++) {
            DUE.is("4: append(" + text[i] + ")", bench.append(text[i]), i + 1);
        }
        DUE.is("4: load()", bench.load(), 1);
        DUE.is("4: setVariable(1, 0)", bench.setVariable(1, 0), 1);
        DUE.is("4: value(0, 0)", bench.value(0, 0), 2199023255552L);
        DUE.is("4: value(0, 1)", bench.value(0, 1), 4398046511104L);
        DUE.is("4: treeCount(1)", bench.treeCount(1), -1);
    }
}
