import java.util.ArrayList;
import java.util.List;
import java.util.function.ToLongFunction;

/**
 * "A call that returns an error changes nothing.": for each refused call, two objects go through the same calls, one
 * of them through the refused one as well, and both must answer alike to everything that follows. The same holds of
 * the calls that only ask.
 */
public final class RefusedTest {
    private static final Due DUE = new Due("RefusedTest");
    private static final int LEAST = Integer.MIN_VALUE, MOST = Integer.MAX_VALUE;
    private static final long NO_VALUE = 1L << 42;

    private record Call(String name, long due, ToLongFunction<DisambiguationBench> made) {}

    private interface State {
        DisambiguationBench make();
    }

    public static void main(String[] args) {
        State[] states = {
            DisambiguationBench::new, RefusedTest::fullOfEverything, RefusedTest::malformed, RefusedTest::oneOperand,
            RefusedTest::elevenOperands,
        };
        for (int i = 0; i < states.length; i++) {
            changesNothing("state " + i, states[i], badArguments());
            changesNothing("state " + i, states[i], questions(states[i].make()));
        }
        changesNothing("a new object", DisambiguationBench::new, refusedByNew());
        changesNothing("full of everything", RefusedTest::fullOfEverything, refusedByFull());
        changesNothing("malformed", RefusedTest::malformed, refusedByMalformed());
        changesNothing("one operand", RefusedTest::oneOperand, refusedByOneOperand());
        changesNothing("eleven operands", RefusedTest::elevenOperands, refusedByElevenOperands());
        DUE.finish();
    }

    private static void changesNothing(String state, State of, List<Call> calls) {
        for (Call call : calls) {
            DisambiguationBench called = of.make();
            DUE.is(state + ": " + call.name(), call.made().applyAsLong(called), call.due());
            same(state + " after " + call.name(), called, of.make());
        }
    }

    // ---- states

    private static DisambiguationBench fullOfEverything() {
        DisambiguationBench bench = new DisambiguationBench();
        Due.append(bench, "op+1l;".repeat(31) + "expra+b+c+d+e;");
        bench.setVariable(0, 77);
        bench.addAvoidFilter(0, 7);
        bench.addPreferFilter(0, 2);
        bench.addRejectFilter(0, 0, 1, true);
        bench.addAssociativityFilter(0);
        bench.addPriorityFilter(0);
        bench.addPriorityFilter(3);
        bench.swapFilters(2);
        bench.setVariable(4, -1000000000);
        return bench;
    }

    private static DisambiguationBench malformed() {
        DisambiguationBench bench = new DisambiguationBench();
        Due.append(bench, "op+9r;op*0l;expra*b;op/3l;x;expra;");
        bench.addPreferFilter(0, 0);
        bench.setVariable(1, 1000000000);
        bench.addAssociativityFilter(1);
        bench.undo();
        return bench;
    }

    private static DisambiguationBench oneOperand() {
        return Due.loaded("op=3n;exprq;");
    }

    private static DisambiguationBench elevenOperands() {
        DisambiguationBench bench = Due.loaded("op+1l;op-1r;op*2n;expra+b-c*d+e-f*g+h-i*j+k;");
        bench.addRejectFilter(0, 2, 0, true);
        bench.addAvoidFilter(0, 0);
        bench.swapFilters(0);
        return bench;
    }

    // ---- calls

    private static List<Call> badArguments() {
        List<Call> calls = new ArrayList<>();
        for (int bad : new int[] {-1, 7, LEAST, MOST}) {
            calls.add(new Call("addPriorityFilter(" + bad + ")", -1, b -> b.addPriorityFilter(bad)));
            calls.add(new Call("addAssociativityFilter(" + bad + ")", -1, b -> b.addAssociativityFilter(bad)));
            calls.add(new Call("addRejectFilter(" + bad + ", ..)", -1, b -> b.addRejectFilter(bad, 0, 0, true)));
            calls.add(new Call("addPreferFilter(" + bad + ", 0)", -1, b -> b.addPreferFilter(bad, 0)));
            calls.add(new Call("addAvoidFilter(" + bad + ", 0)", -1, b -> b.addAvoidFilter(bad, 0)));
            calls.add(new Call("removeFilter(" + bad + ")", -1, b -> b.removeFilter(bad)));
            calls.add(new Call("swapFilters(" + bad + ")", -1, b -> b.swapFilters(bad)));
            calls.add(new Call("filterKind(" + bad + ")", -1, b -> b.filterKind(bad)));
            calls.add(new Call("orderMatters(" + bad + ")", -1, b -> b.orderMatters(bad)));
            calls.add(new Call("treeCount(" + bad + ")", -1, b -> b.treeCount(bad)));
            calls.add(new Call("derivations(" + bad + ", 0, 1, 0)", -1, b -> b.derivations(bad, 0, 1, 0)));
            calls.add(new Call("operatorAt(" + bad + ", 0, 0)", -1, b -> b.operatorAt(bad, 0, 0)));
            calls.add(new Call("survivorRank(" + bad + ", 0)", -1, b -> b.survivorRank(bad, 0)));
            calls.add(new Call("value(" + bad + ", 0)", NO_VALUE, b -> b.value(bad, 0)));
            calls.add(new Call("distinctValues(" + bad + ")", -1, b -> b.distinctValues(bad)));
        }
        for (int bad : new int[] {-1, 9, LEAST, MOST}) {
            calls.add(new Call("addRejectFilter(0, " + bad + ", 0, ..)", -1, b -> b.addRejectFilter(0, bad, 0, false)));
            calls.add(new Call("addRejectFilter(0, 0, " + bad + ", ..)", -1, b -> b.addRejectFilter(0, 0, bad, false)));
            calls.add(new Call("addPreferFilter(0, " + bad + ")", -1, b -> b.addPreferFilter(0, bad)));
            calls.add(new Call("addAvoidFilter(0, " + bad + ")", -1, b -> b.addAvoidFilter(0, bad)));
            calls.add(new Call("priorityOf(" + bad + ")", -1, b -> b.priorityOf(bad)));
        }
        badNumbers(calls);
        return calls;
    }

    private static void badNumbers(List<Call> calls) {
        for (int bad : new int[] {31, 127, -1, LEAST, MOST}) {
            calls.add(new Call("append(" + bad + ")", -1, b -> b.append(bad)));
        }
        for (int bad : new int[] {-1, 26, LEAST, MOST}) {
            calls.add(new Call("setVariable(" + bad + ", 0)", -1, b -> b.setVariable(bad, 0)));
        }
        for (int bad : new int[] {1000000001, -1000000001, LEAST, MOST}) {
            calls.add(new Call("setVariable(0, " + bad + ")", -1, b -> b.setVariable(0, bad)));
        }
        for (int bad : new int[] {-1, 10, LEAST, MOST}) {
            calls.add(new Call("symbolOf(" + bad + ")", -1, b -> b.symbolOf(bad)));
            calls.add(new Call("derivations(0, 0, 1, " + bad + ")", -1, b -> b.derivations(0, 0, 1, bad)));
        }
        for (int bad : new int[] {-1, LEAST}) {
            calls.add(new Call("operatorAt(0, " + bad + ", 0)", -1, b -> b.operatorAt(0, bad, 0)));
            calls.add(new Call("operatorAt(0, 0, " + bad + ")", -1, b -> b.operatorAt(0, 0, bad)));
            calls.add(new Call("discardedBy(" + bad + ")", -1, b -> b.discardedBy(bad)));
            calls.add(new Call("survivorRank(0, " + bad + ")", -1, b -> b.survivorRank(0, bad)));
            calls.add(new Call("value(0, " + bad + ")", NO_VALUE, b -> b.value(0, bad)));
        }
        calls.add(new Call("operatorAt(0, MOST, 0)", -4, b -> b.operatorAt(0, MOST, 0)));
        calls.add(new Call("operatorAt(0, 0, MOST)", -4, b -> b.operatorAt(0, 0, MOST)));
        calls.add(new Call("discardedBy(MOST)", -4, b -> b.discardedBy(MOST)));
        calls.add(new Call("survivorRank(0, MOST)", -4, b -> b.survivorRank(0, MOST)));
        calls.add(new Call("value(0, MOST)", NO_VALUE, b -> b.value(0, MOST)));
        calls.add(new Call("derivations(0, 1, 1, 1)", -1, b -> b.derivations(0, 1, 1, 1)));
        calls.add(new Call("derivations(0, 0, 11, 0)", -1, b -> b.derivations(0, 0, 11, 0)));
    }

    /** The calls that only ask, each with the answer that another object of the same state gives. */
    private static List<Call> questions(DisambiguationBench other) {
        List<Call> calls = new ArrayList<>();
        int filters = other.filterCount();
        calls.add(new Call("syntaxError()", other.syntaxError(), b -> b.syntaxError()));
        calls.add(new Call("operatorCount()", other.operatorCount(), b -> b.operatorCount()));
        calls.add(new Call("filterCount()", filters, b -> b.filterCount()));
        calls.add(new Call("historySize()", other.historySize(), b -> b.historySize()));
        calls.add(new Call("symbolOf(0)", other.symbolOf(0), b -> b.symbolOf(0)));
        calls.add(new Call("priorityOf(0)", other.priorityOf(0), b -> b.priorityOf(0)));
        calls.add(new Call("filterKind(0)", other.filterKind(0), b -> b.filterKind(0)));
        calls.add(new Call("orderMatters(0)", other.orderMatters(0), b -> b.orderMatters(0)));
        calls.add(new Call("treeCount(all)", other.treeCount(filters), b -> b.treeCount(filters)));
        calls.add(new Call("derivations(all, ..)", other.derivations(filters, 0, 1, 0), b -> b.derivations(filters, 0, 1, 0)));
        calls.add(new Call("operatorAt(all, ..)", other.operatorAt(filters, 0, 0), b -> b.operatorAt(filters, 0, 0)));
        calls.add(new Call("discardedBy(0)", other.discardedBy(0), b -> b.discardedBy(0)));
        calls.add(new Call("survivorRank(all, 0)", other.survivorRank(filters, 0), b -> b.survivorRank(filters, 0)));
        calls.add(new Call("value(all, 0)", other.value(filters, 0), b -> b.value(filters, 0)));
        calls.add(new Call("distinctValues(all)", other.distinctValues(filters), b -> b.distinctValues(filters)));
        return calls;
    }

    private static List<Call> refusedByNew() {
        return List.of(
                new Call("load() of an empty text", -2, b -> b.load()),
                new Call("syntaxError() of an empty text", -4, b -> b.syntaxError()),
                new Call("undo() of none", -2, b -> b.undo()),
                new Call("removeFilter(0) of none", -1, b -> b.removeFilter(0)),
                new Call("swapFilters(0) of none", -1, b -> b.swapFilters(0)),
                new Call("orderMatters(0) of none", -1, b -> b.orderMatters(0)),
                new Call("addPriorityFilter(1) of none", -1, b -> b.addPriorityFilter(1)),
                new Call("priorityOf(3), undeclared", -4, b -> b.priorityOf(3)),
                new Call("operatorAt(0, 14, 0)", -4, b -> b.operatorAt(0, 14, 0)),
                new Call("operatorAt(0, 13, 4)", -4, b -> b.operatorAt(0, 13, 4)),
                new Call("discardedBy(14)", -4, b -> b.discardedBy(14)),
                new Call("survivorRank(0, 14)", -4, b -> b.survivorRank(0, 14)),
                new Call("value(0, 14)", NO_VALUE, b -> b.value(0, 14)));
    }

    private static List<Call> refusedByFull() {
        return List.of(
                new Call("append(97) to a full text", -3, b -> b.append(97)),
                new Call("append(59) to a full text", -3, b -> b.append(59)),
                new Call("addPriorityFilter(0) to six", -3, b -> b.addPriorityFilter(0)),
                new Call("addAssociativityFilter(6) to six", -3, b -> b.addAssociativityFilter(6)),
                new Call("addRejectFilter(0, ..) to six", -3, b -> b.addRejectFilter(0, 0, 0, true)),
                new Call("addPreferFilter(5, 8) to six", -3, b -> b.addPreferFilter(5, 8)),
                new Call("addAvoidFilter(1, 0) to six", -3, b -> b.addAvoidFilter(1, 0)),
                new Call("removeFilter(6) of six", -1, b -> b.removeFilter(6)),
                new Call("swapFilters(5) of six", -2, b -> b.swapFilters(5)),
                new Call("swapFilters(6) of six", -1, b -> b.swapFilters(6)),
                new Call("orderMatters(5) of six", -2, b -> b.orderMatters(5)),
                new Call("survivorRank(6, 0), which does not survive", -4, b -> b.survivorRank(6, 0)));
    }

    private static List<Call> refusedByMalformed() {
        return List.of(
                new Call("load()", -2, b -> b.load()),
                new Call("syntaxError()", 26, b -> b.syntaxError()),
                new Call("swapFilters(0) of one", -2, b -> b.swapFilters(0)),
                new Call("orderMatters(0) of one", -2, b -> b.orderMatters(0)),
                new Call("removeFilter(1) of one", -1, b -> b.removeFilter(1)));
    }

    private static List<Call> refusedByOneOperand() {
        return List.of(
                new Call("undo() after load()", -2, b -> b.undo()),
                new Call("symbolOf(0) of a leaf", -1, b -> b.symbolOf(0)),
                new Call("derivations(0, 0, 1, 0) of a leaf", -1, b -> b.derivations(0, 0, 1, 0)),
                new Call("operatorAt(0, 0, 0) of a leaf", -4, b -> b.operatorAt(0, 0, 0)),
                new Call("discardedBy(1) of a leaf", -4, b -> b.discardedBy(1)),
                new Call("value(0, 1) of a leaf", NO_VALUE, b -> b.value(0, 1)));
    }

    private static List<Call> refusedByElevenOperands() {
        return List.of(
                new Call("distinctValues(0) of 16796 trees", -3, b -> b.distinctValues(0)),
                new Call("distinctValues(1)", -3, b -> b.distinctValues(1)),
                new Call("operatorAt(0, 16796, 0)", -4, b -> b.operatorAt(0, 16796, 0)),
                new Call("operatorAt(0, 16795, 10)", -4, b -> b.operatorAt(0, 16795, 10)),
                new Call("discardedBy(16796)", -4, b -> b.discardedBy(16796)),
                new Call("survivorRank(2, 16796)", -4, b -> b.survivorRank(2, 16796)),
                new Call("value(2, 16796)", NO_VALUE, b -> b.value(2, 16796)));
    }

    // ---- comparison

    /** Asks both all they answer, goes back in both as far as they can, and loads their texts in the end. */
    private static void same(String what, DisambiguationBench one, DisambiguationBench other) {
        sameSetup(what, one, other);
        samePipeline(what, one, other);
        for (int i = 0; i <= 4; i++) {
            DUE.is(what + ", undone " + i, one.undo(), other.undo());
            samePipeline(what + ", undone " + i, one, other);
        }
        for (int letter = 0; letter < 26; letter++) {
            DUE.is(what + ", variable " + letter, one.setVariable(letter, letter + 1), other.setVariable(letter, letter + 1));
        }
        DUE.is(what + ", append()", one.append(';'), other.append(';'));
        DUE.is(what + ", syntaxError() of more", one.syntaxError(), other.syntaxError());
        DUE.is(what + ", load()", one.load(), other.load());
        sameSetup(what + ", loaded", one, other);
        DUE.is(what + ", clearText()", one.clearText(), other.clearText());
    }

    private static void sameSetup(String what, DisambiguationBench one, DisambiguationBench other) {
        DUE.is(what + ": syntaxError()", one.syntaxError(), other.syntaxError());
        DUE.is(what + ": operatorCount()", one.operatorCount(), other.operatorCount());
        for (int i = 0; i < 9; i++) {
            DUE.is(what + ": symbolOf(" + i + ")", one.symbolOf(i), other.symbolOf(i));
            DUE.is(what + ": priorityOf(" + i + ")", one.priorityOf(i), other.priorityOf(i));
        }
        DUE.is(what + ": value(0, 0)", one.value(0, 0), other.value(0, 0));
        DUE.is(what + ": distinctValues(0)", one.distinctValues(0), other.distinctValues(0));
    }

    private static void samePipeline(String what, DisambiguationBench one, DisambiguationBench other) {
        int filters = other.filterCount();
        DUE.is(what + ": filterCount()", one.filterCount(), filters);
        DUE.is(what + ": historySize()", one.historySize(), other.historySize());
        for (int i = 0; i <= filters; i++) {
            DUE.is(what + ": filterKind(" + i + ")", one.filterKind(i), other.filterKind(i));
            DUE.is(what + ": treeCount(" + i + ")", one.treeCount(i), other.treeCount(i));
        }
        for (int rank = 0; rank < 5; rank++) {
            DUE.is(what + ": discardedBy(" + rank + ")", one.discardedBy(rank), other.discardedBy(rank));
        }
        DUE.is(what + ": value(0, 4)", one.value(0, 4), other.value(0, 4));
        DUE.is(what + ": value(all, 0)", one.value(filters, 0), other.value(filters, 0));
    }
}
