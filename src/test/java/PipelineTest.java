/** Promises 6 to 15: the filters of the pipeline, the variables and the history. */
public final class PipelineTest {
    private static final Due DUE = new Due("PipelineTest");
    private static final int KINDS = 5;

    public static void main(String[] args) {
        for (int kind = 0; kind < KINDS; kind++) {
            addEach(kind);
            insertBetween(kind);
            addToFull(kind);
        }
        refusedSymbols();
        removeFilter();
        swapFilters();
        filterKind();
        setVariable();
        undoEachEdit();
        undoOfFour();
        undoRestoresWhatFiltersDo();
        refusedEditsAreNoEdits();
        changesOfTheTextAreNoEdits();
        DUE.finish();
    }

    private static int add(DisambiguationBench bench, int kind, int position) {
        return switch (kind) {
            case 0 -> bench.addPriorityFilter(position);
            case 1 -> bench.addAssociativityFilter(position);
            case 2 -> bench.addRejectFilter(position, 0, 1, true);
            case 3 -> bench.addPreferFilter(position, 2);
            default -> bench.addAvoidFilter(position, 3);
        };
    }

    private static void kinds(String what, DisambiguationBench bench, int... want) {
        DUE.is(what + ": filterCount()", bench.filterCount(), want.length);
        for (int i = 0; i < want.length; i++) {
            DUE.is(what + ": filterKind(" + i + ")", bench.filterKind(i), want[i]);
        }
        DUE.is(what + ": filterKind(" + want.length + ")", bench.filterKind(want.length), -1);
    }

    // ---- promises 6 to 10

    private static void addEach(int kind) {
        DisambiguationBench bench = new DisambiguationBench();
        for (int position : new int[] {1, -1, 6, Integer.MIN_VALUE, Integer.MAX_VALUE}) {
            DUE.is("add " + kind + " at " + position, add(bench, kind, position), -1);
        }
        kinds("after refused adds of " + kind, bench);
        DUE.is("historySize() after refused adds", bench.historySize(), 0);
        DUE.is("add " + kind + " at 0", add(bench, kind, 0), 1);
        kinds("after the add of " + kind, bench, kind);
        DUE.is("historySize() after an add", bench.historySize(), 1);
        DUE.is("add " + kind + " at 2", add(bench, kind, 2), -1);
        DUE.is("add " + kind + " at 1", add(bench, kind, 1), 2);
    }

    private static void insertBetween(int kind) {
        int other = (kind + 1) % KINDS;
        DisambiguationBench bench = new DisambiguationBench();
        add(bench, other, 0);
        add(bench, other, 0);
        DUE.is("add " + kind + " between", add(bench, kind, 1), 3);
        kinds("between", bench, other, kind, other);
        DUE.is("add " + kind + " in front", add(bench, kind, 0), 4);
        kinds("in front", bench, kind, other, kind, other);
        DUE.is("add " + kind + " at the end", add(bench, kind, 4), 5);
        kinds("at the end", bench, kind, other, kind, other, kind);
    }

    private static void addToFull(int kind) {
        DisambiguationBench bench = new DisambiguationBench();
        for (int i = 1; i <= 6; i++) {
            DUE.is("add number " + i + " of " + kind, add(bench, kind, 0), i);
        }
        DUE.is("add of " + kind + " to a full pipeline", add(bench, kind, 0), -3);
        DUE.is("add of " + kind + " at the end of a full pipeline", add(bench, kind, 6), -3);
        DUE.is("add of " + kind + " behind a full pipeline", add(bench, kind, 7), -1);
        DUE.is("add of " + kind + " at -1 of a full pipeline", add(bench, kind, -1), -1);
        kinds("full", bench, kind, kind, kind, kind, kind, kind);
        DUE.is("historySize() of a full pipeline", bench.historySize(), 4);
    }

    private static void refusedSymbols() {
        DisambiguationBench bench = new DisambiguationBench();
        for (int symbol : new int[] {-1, 9, 16, Integer.MIN_VALUE, Integer.MAX_VALUE}) {
            DUE.is("addRejectFilter, parent " + symbol, bench.addRejectFilter(0, symbol, 0, true), -1);
            DUE.is("addRejectFilter, child " + symbol, bench.addRejectFilter(0, 0, symbol, false), -1);
            DUE.is("addPreferFilter, symbol " + symbol, bench.addPreferFilter(0, symbol), -1);
            DUE.is("addAvoidFilter, symbol " + symbol, bench.addAvoidFilter(0, symbol), -1);
        }
        DUE.is("filterCount() after refused symbols", bench.filterCount(), 0);
        DUE.is("addRejectFilter(0, 8, 0, true)", bench.addRejectFilter(0, 8, 0, true), 1);
        DUE.is("addRejectFilter(0, 0, 8, true)", bench.addRejectFilter(0, 0, 8, true), 2);
        DUE.is("addPreferFilter(0, 8)", bench.addPreferFilter(0, 8), 3);
        DUE.is("addAvoidFilter(0, 8)", bench.addAvoidFilter(0, 8), 4);
        DUE.is("addPreferFilter(0, 0)", bench.addPreferFilter(0, 0), 5);
        DUE.is("addAvoidFilter(0, 0)", bench.addAvoidFilter(0, 0), 6);
        DUE.is("full: addRejectFilter, parent 9", bench.addRejectFilter(0, 9, 0, true), -1);
        DUE.is("full: addRejectFilter, child 9", bench.addRejectFilter(0, 0, 9, true), -1);
        DUE.is("full: addPreferFilter, symbol 9", bench.addPreferFilter(0, 9), -1);
        DUE.is("full: addAvoidFilter, symbol 9", bench.addAvoidFilter(0, 9), -1);
    }

    // ---- promises 11 to 13

    private static DisambiguationBench oneOfEach() {
        DisambiguationBench bench = new DisambiguationBench();
        for (int kind = 0; kind < KINDS; kind++) {
            add(bench, kind, kind);
        }
        return bench;
    }

    private static void removeFilter() {
        DisambiguationBench bench = new DisambiguationBench();
        DUE.is("removeFilter(0) of none", bench.removeFilter(0), -1);
        bench = oneOfEach();
        for (int position : new int[] {5, -1, 6, Integer.MIN_VALUE, Integer.MAX_VALUE}) {
            DUE.is("removeFilter(" + position + ") of five", bench.removeFilter(position), -1);
        }
        kinds("after refused removals", bench, 0, 1, 2, 3, 4);
        DUE.is("removeFilter(1)", bench.removeFilter(1), 4);
        kinds("without 1", bench, 0, 2, 3, 4);
        DUE.is("removeFilter(3)", bench.removeFilter(3), 3);
        kinds("without the last", bench, 0, 2, 3);
        DUE.is("removeFilter(0)", bench.removeFilter(0), 2);
        kinds("without the first", bench, 2, 3);
        DUE.is("treeCount(0)", bench.treeCount(0), 14);
        DUE.is("treeCount(2) of reject and prefer", bench.treeCount(2), 2);
        DUE.is("removeFilter(1)", bench.removeFilter(1), 1);
        DUE.is("removeFilter(0)", bench.removeFilter(0), 0);
        DUE.is("removeFilter(0) of none left", bench.removeFilter(0), -1);
        kinds("none left", bench);
    }

    private static void swapFilters() {
        DisambiguationBench bench = new DisambiguationBench();
        DUE.is("swapFilters(0) of none", bench.swapFilters(0), -1);
        bench = oneOfEach();
        for (int position : new int[] {5, -1, 6, Integer.MIN_VALUE, Integer.MAX_VALUE}) {
            DUE.is("swapFilters(" + position + ") of five", bench.swapFilters(position), -1);
        }
        DUE.is("swapFilters(4) of five", bench.swapFilters(4), -2);
        kinds("after refused swaps", bench, 0, 1, 2, 3, 4);
        DUE.is("swapFilters(0)", bench.swapFilters(0), 1);
        kinds("swapped at 0", bench, 1, 0, 2, 3, 4);
        DUE.is("swapFilters(3)", bench.swapFilters(3), 4);
        kinds("swapped at 3", bench, 1, 0, 2, 4, 3);
        bench.undo();
        kinds("swap at 3 undone", bench, 1, 0, 2, 3, 4);
        DUE.is("historySize() after swaps", bench.historySize(), 3);
    }

    private static void filterKind() {
        DisambiguationBench bench = new DisambiguationBench();
        DUE.is("filterKind(0) of none", bench.filterKind(0), -1);
        bench = oneOfEach();
        for (int kind = 0; kind < KINDS; kind++) {
            DUE.is("filterKind(" + kind + ")", bench.filterKind(kind), kind);
        }
        for (int position : new int[] {5, -1, 6, Integer.MIN_VALUE, Integer.MAX_VALUE}) {
            DUE.is("filterKind(" + position + ")", bench.filterKind(position), -1);
        }
        DUE.is("historySize() after questions", bench.historySize(), 4);
    }

    // ---- promise 14

    private static void setVariable() {
        DisambiguationBench bench = Due.loaded("op+1l;expra+z;");
        int[][] refused = {
            {-1, 0}, {26, 0}, {Integer.MIN_VALUE, 0}, {Integer.MAX_VALUE, 0}, {0, 1000000001}, {0, -1000000001},
            {0, Integer.MIN_VALUE}, {0, Integer.MAX_VALUE}, {26, 1000000001},
        };
        for (int[] call : refused) {
            DUE.is("setVariable(" + call[0] + ", " + call[1] + ")", bench.setVariable(call[0], call[1]), -1);
        }
        DUE.is("historySize() after refused ones", bench.historySize(), 0);
        DUE.is("value(0, 0)", bench.value(0, 0), 27);
        DUE.is("setVariable(0, 1000000000)", bench.setVariable(0, 1000000000), 1);
        DUE.is("setVariable(25, -1000000000)", bench.setVariable(25, -1000000000), 1);
        DUE.is("value(0, 0)", bench.value(0, 0), 0);
        DUE.is("setVariable(25, -1000000000) again", bench.setVariable(25, -1000000000), 0);
        DUE.is("historySize() counts the same value too", bench.historySize(), 3);
        DUE.is("undo() of the same value", bench.undo(), 2);
        DUE.is("value(0, 0) after it", bench.value(0, 0), 0);
        DUE.is("undo() of the other value", bench.undo(), 1);
        DUE.is("value(0, 0) after it", bench.value(0, 0), 1000000026);
        DUE.is("setVariable(1, 2)", bench.setVariable(1, 2), 0);
    }

    // ---- promise 15

    private static void undoEachEdit() {
        DisambiguationBench bench = new DisambiguationBench();
        DUE.is("undo() of none", bench.undo(), -2);
        for (int kind = 0; kind < KINDS; kind++) {
            add(bench, kind, 0);
            DUE.is("undo() of add " + kind, bench.undo(), 0);
            kinds("undone add " + kind, bench);
        }
        DUE.is("undo() of none left", bench.undo(), -2);
        add(bench, 0, 0);
        add(bench, 3, 1);
        bench.swapFilters(0);
        bench.removeFilter(1);
        kinds("edited", bench, 3);
        DUE.is("undo() of the removal", bench.undo(), 3);
        kinds("removal undone", bench, 3, 0);
        DUE.is("undo() of the swap", bench.undo(), 2);
        kinds("swap undone", bench, 0, 3);
        DUE.is("undo() of the second add", bench.undo(), 1);
        kinds("second add undone", bench, 0);
        add(bench, 4, 0);
        DUE.is("historySize() after an edit behind undone ones", bench.historySize(), 2);
        DUE.is("undo() of it", bench.undo(), 1);
        kinds("it undone", bench, 0);
    }

    private static void undoOfFour() {
        DisambiguationBench bench = Due.loaded("expra;");
        for (int i = 1; i <= 7; i++) {
            bench.setVariable(0, 100 + i);
            DUE.is("historySize() after edit " + i, bench.historySize(), Math.min(i, 4));
        }
        for (int i = 6; i >= 3; i--) {
            DUE.is("undo() back to " + i, bench.undo(), i - 3);
            DUE.is("value(0, 0) back at " + i, bench.value(0, 0), 100 + i);
        }
        DUE.is("undo() of the fifth", bench.undo(), -2);
        DUE.is("value(0, 0) after a refused undo", bench.value(0, 0), 103);
        DUE.is("historySize() after a refused undo", bench.historySize(), 0);
    }

    private static void undoRestoresWhatFiltersDo() {
        DisambiguationBench bench = new DisambiguationBench();
        bench.addPreferFilter(0, 2);
        bench.removeFilter(0);
        bench.addPreferFilter(0, 7);
        DUE.is("treeCount(1), < preferred", bench.treeCount(1), 5);
        bench.undo();
        bench.undo();
        DUE.is("treeCount(1), * preferred again", bench.treeCount(1), 2);
        bench.setVariable(0, 8);
        bench.addPriorityFilter(0);
        bench.undo();
        DUE.is("the variable stays as the add is undone", bench.setVariable(0, 8), 0);
    }

    private static void refusedEditsAreNoEdits() {
        DisambiguationBench bench = new DisambiguationBench();
        bench.addPriorityFilter(0);
        bench.removeFilter(1);
        bench.swapFilters(0);
        bench.swapFilters(1);
        bench.addAvoidFilter(3, 0);
        bench.setVariable(26, 0);
        DUE.is("historySize() after refused edits", bench.historySize(), 1);
        DUE.is("undo()", bench.undo(), 0);
        DUE.is("filterCount()", bench.filterCount(), 0);
    }

    /** "Adding, removing and swapping filters, and setting a variable, are edits." */
    private static void changesOfTheTextAreNoEdits() {
        DisambiguationBench bench = new DisambiguationBench();
        Due.append(bench, "op+1l;");
        DUE.is("historySize() after append()", bench.historySize(), 0);
        bench.addPriorityFilter(0);
        Due.append(bench, "x");
        DUE.is("historySize() after an add and append()", bench.historySize(), 1);
        DUE.is("undo() of the add", bench.undo(), 0);
        DUE.is("filterCount() after undo()", bench.filterCount(), 0);
        DUE.is("syntaxError() of the text, which stays", bench.syntaxError(), 6);
        bench.addPriorityFilter(0);
        DUE.is("clearText()", bench.clearText(), 7);
        DUE.is("historySize() after clearText()", bench.historySize(), 1);
        DUE.is("undo() of the add again", bench.undo(), 0);
        DUE.is("clearText() of the text, which stays empty", bench.clearText(), 0);
    }
}
