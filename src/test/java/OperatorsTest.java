/** Promises 16, 17 and 26 to 28: operators, priorities and sizes. */
public final class OperatorsTest {
    private static final Due DUE = new Due("OperatorsTest");

    public static void main(String[] args) {
        symbolOf();
        priorityOf();
        operatorCount();
        filterCount();
        historySize();
        DUE.finish();
    }

    // ---- promise 16

    private static void symbolOf() {
        DisambiguationBench bench = Due.loaded("op+1l;op-1l;op*1l;op/1l;op%1l;op&1l;op|1l;op<1l;op=1l;expra=b<c|d&e%f/g*h-i+j;");
        for (int operator = 0; operator < 9; operator++) {
            DUE.is("symbolOf(" + operator + ")", bench.symbolOf(operator), 8 - operator);
        }
        for (int operator : new int[] {9, 10, 11, -1, Integer.MIN_VALUE, Integer.MAX_VALUE}) {
            DUE.is("symbolOf(" + operator + ")", bench.symbolOf(operator), -1);
        }
        bench = Due.loaded("expra;");
        DUE.is("symbolOf(0) of one operand", bench.symbolOf(0), -1);
        bench = Due.loaded("op=1l;expra=b=c=d=e=f=g=h=i=j=k;");
        DUE.is("symbolOf(9) of ten operators", bench.symbolOf(9), 8);
        DUE.is("symbolOf(10) of ten operators", bench.symbolOf(10), -1);
    }

    // ---- promise 17

    private static void priorityOf() {
        DisambiguationBench bench = Due.loaded("op+0l;op-1l;op*2l;op/3l;op%4l;op&5l;op|6l;op<7l;op=9l;expra;");
        int[] due = {0, 1, 2, 3, 4, 5, 6, 7, 9};
        for (int symbol = 0; symbol < 9; symbol++) {
            DUE.is("priorityOf(" + symbol + ")", bench.priorityOf(symbol), due[symbol]);
        }
        for (int symbol : new int[] {9, 10, -1, Integer.MIN_VALUE, Integer.MAX_VALUE}) {
            DUE.is("priorityOf(" + symbol + ")", bench.priorityOf(symbol), -1);
        }
        bench = Due.loaded("op=8n;expra;");
        for (int symbol = 0; symbol < 8; symbol++) {
            DUE.is("priorityOf(" + symbol + ") undeclared", bench.priorityOf(symbol), -4);
        }
        DUE.is("priorityOf(8)", bench.priorityOf(8), 8);
    }

    // ---- promise 26

    private static void operatorCount() {
        StringBuilder text = new StringBuilder("op+1l;expra");
        for (int operators = 0; operators <= 10; operators++) {
            DUE.is("operatorCount()", Due.loaded(text + ";").operatorCount(), operators);
            text.append("+a");
        }
    }

    // ---- promise 27

    private static void filterCount() {
        DisambiguationBench bench = new DisambiguationBench();
        for (int filters = 0; filters < 6; filters++) {
            DUE.is("filterCount()", bench.filterCount(), filters);
            bench.addPriorityFilter(filters);
        }
        DUE.is("filterCount() of a full pipeline", bench.filterCount(), 6);
        bench.addPriorityFilter(0);
        DUE.is("filterCount() after a refused add", bench.filterCount(), 6);
        bench.swapFilters(0);
        DUE.is("filterCount() after a swap", bench.filterCount(), 6);
        bench.removeFilter(0);
        DUE.is("filterCount() after a removal", bench.filterCount(), 5);
        bench.undo();
        DUE.is("filterCount() after undo", bench.filterCount(), 6);
    }

    // ---- promise 28

    private static void historySize() {
        DisambiguationBench bench = new DisambiguationBench();
        DUE.is("historySize()", bench.historySize(), 0);
        bench.addPriorityFilter(0);
        bench.addAvoidFilter(0, 1);
        DUE.is("historySize() of two adds", bench.historySize(), 2);
        bench.swapFilters(0);
        DUE.is("historySize() with a swap", bench.historySize(), 3);
        bench.removeFilter(0);
        DUE.is("historySize() with a removal", bench.historySize(), 4);
        bench.setVariable(0, 0);
        DUE.is("historySize() of five edits", bench.historySize(), 4);
        bench.undo();
        DUE.is("historySize() after undo", bench.historySize(), 3);
        bench.orderMatters(0);
        bench.treeCount(1);
        DUE.is("historySize() after questions", bench.historySize(), 3);
        bench.setVariable(0, 0);
        DUE.is("historySize() after another edit", bench.historySize(), 4);
    }
}
