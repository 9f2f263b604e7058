import java.util.ArrayDeque;
import java.util.Deque;

/**
 * The boundary cases that the document's "Description" names, in its order, each at the last case that is in range
 * and the first that is not. A comment quotes the sentence. What "Promise 1" to "Promise 28" say stands in the tests
 * by promise.
 */
public final class BoundaryTest {
    private static final Due DUE = new Due("BoundaryTest");
    private static final int LEAST = Integer.MIN_VALUE, MOST = Integer.MAX_VALUE;
    private static final long OVERFLOW = 1L << 40, DIVISION_BY_ZERO = 1L << 41, NO_VALUE = 1L << 42;
    private static final String SYMBOLS = "+-*/%&|<=";
    private static final String ELEVEN = "op+1l;expra+b+c+d+e+f+g+h+i+j+k;";

    public static void main(String[] args) {
        textOf200Characters();
        fullTextThatIsMalformed();
        emptyText();
        textOfOneCharacter();
        noWhiteSpace();
        prefixesOfText();
        signsOfTheGrammar();
        laterDeclaration();
        oneExpression();
        oneToElevenOperands();
        declaredBefore();
        declaredAtTheEnd();
        initialSetup();
        leafAlone();
        elevenOperands();
        sixFilters();
        strictlyHigherPriority();
        equalPriority();
        rejectOfFirstAndLastSymbol();
        preferWithOneDerivationOrNone();
        avoidWithOneDerivationOrNone();
        spanOfOneOperator();
        initialLetters();
        sumsAtTheEdges();
        productsAtTheEdges();
        quotientsAtTheEdges();
        firstFailure();
        lastFourEdits();
        historyAfterManyEdits();
        loadingClearsHistory();
        orderOfErrors();
        DUE.finish();
    }

    private static DisambiguationBench withText(String text) {
        DisambiguationBench bench = new DisambiguationBench();
        Due.append(bench, text);
        return bench;
    }

    // ---- setup text

    /** "The setup text is a character buffer of at most 200 characters." */
    private static void textOf200Characters() {
        String text = "op+1l;".repeat(31) + "expra+b+c+d+e;";
        DisambiguationBench bench = withText(text.substring(0, 199));
        DUE.is("syntaxError() of 199 characters", bench.syntaxError(), 186);
        DUE.is("the 200th character", bench.append(';'), 200);
        DUE.is("syntaxError() of 200 characters", bench.syntaxError(), -4);
        DUE.is("the 201st character", bench.append(';'), -3);
        DUE.is("syntaxError() after the refused character", bench.syntaxError(), -4);
        DUE.is("load() of 200 characters", bench.load(), 4);
        DUE.is("the text is kept, and full", bench.append(';'), -3);
        DUE.is("clearText() of 200 characters", bench.clearText(), 200);
        DUE.is("the first character of the emptied text", bench.append(';'), 1);
    }

    /** "A statement is malformed if [...] its terminating ";" is missing", where no character more has room. */
    private static void fullTextThatIsMalformed() {
        DisambiguationBench bench = withText("expra;" + "op+1l;".repeat(32) + "op");
        DUE.is("syntaxError() of a full text", bench.syntaxError(), 198);
        DUE.is("load() of a full text that is malformed", bench.load(), -2);
        DUE.is("clearText() of it", bench.clearText(), 200);
    }

    /** "setup = { statement ";" }": no statement is none that is malformed, and no expr statement either. */
    private static void emptyText() {
        DisambiguationBench bench = new DisambiguationBench();
        DUE.is("syntaxError() of the empty text", bench.syntaxError(), -4);
        DUE.is("load() of the empty text", bench.load(), -2);
        DUE.is("clearText() of the empty text", bench.clearText(), 0);
    }

    /** "A statement is malformed if it does not match the grammar": no single character does, nor does a lone ";". */
    private static void textOfOneCharacter() {
        for (char c = 32; c <= 126; c++) {
            DisambiguationBench bench = withText(String.valueOf(c));
            DUE.is("syntaxError() of " + c, bench.syntaxError(), 0);
            DUE.is("load() of " + c, bench.load(), -2);
        }
        DUE.is("syntaxError() of ; behind a statement", withText("expra;;").syntaxError(), 6);
    }

    /** "Its grammar is, without any white space". */
    private static void noWhiteSpace() {
        String text = "op+4l;expra+b;";
        for (int at = 0; at <= text.length(); at++) {
            String spaced = text.substring(0, at) + " " + text.substring(at);
            DUE.is("syntaxError() of " + spaced, withText(spaced).syntaxError(), at < 6 ? 0 : at < 14 ? 6 : 14);
        }
    }

    /** "The index of the first character of the first malformed statement": the one that is not finished yet. */
    private static void prefixesOfText() {
        String text = "op+4l;expra+b;op-0n;";
        for (int length = 0; length <= text.length(); length++) {
            int start = length < 6 ? 0 : length < 14 ? 6 : 14;
            boolean whole = length == 0 || length == 6 || length == 14 || length == 20;
            DisambiguationBench bench = withText(text.substring(0, length));
            DUE.is("syntaxError() of " + length + " characters", bench.syntaxError(), whole ? -4 : start);
            DUE.is("load() of " + length + " characters", bench.load(), whole && length >= 14 ? 1 : -2);
        }
    }

    /** "symbol", "operand" and "digit": each place of a statement takes its own signs, and no other character. */
    private static void signsOfTheGrammar() {
        String digits = "0123456789";
        String letters = "abcdefghijklmnopqrstuvwxyz";
        for (char c = 32; c <= 126; c++) {
            signAt("op", c, "1l;", SYMBOLS);
            signAt("op+", c, "l;", digits);
            signAt("op+1", c, ";", "lrn");
            signAt("expr", c, ";", letters);
            // A ';' would end the statement in the middle, and what follows it is malformed then as well.
            signAt("op+1l;op-1l;op*1l;op/1l;op%1l;op&1l;op|1l;op<1l;op=1l;expra", c, "b;", SYMBOLS);
        }
    }

    private static void signAt(String before, char c, String after, String signs) {
        int start = before.lastIndexOf(';') + 1;
        boolean fits = signs.indexOf(c) >= 0;
        int due = fits ? -4 : before.endsWith("expra") && c == ';' ? start + 6 : start;
        DUE.is("syntaxError() of " + before + c + after, withText(before + c + after).syntaxError(), due);
    }

    /** "A later op statement for the same symbol replaces the earlier one." */
    private static void laterDeclaration() {
        DisambiguationBench bench = Due.loaded("op=0l;op=9n;op=5r;expra=b=c;");
        DUE.is("priorityOf(=) of the third declaration", bench.priorityOf(8), 5);
        bench.addAssociativityFilter(0);
        DUE.is("treeCount(1) by the third declaration", bench.treeCount(1), 1);
        DUE.is("operatorAt(1, 0, 0) by the third declaration", bench.operatorAt(1, 0, 0), 0);
    }

    /** "An expr statement gives the expression; there may be at most one." */
    private static void oneExpression() {
        DUE.is("no expr statement: syntaxError()", withText("op+1l;").syntaxError(), -4);
        DUE.is("no expr statement: load()", withText("op+1l;").load(), -2);
        DUE.is("one expr statement: load()", withText("op+1l;expra+b;").load(), 1);
        DUE.is("two expr statements: syntaxError()", withText("op+1l;expra;op-1l;expra;").syntaxError(), 18);
        DUE.is("two expr statements: load()", withText("op+1l;expra;op-1l;expra;").load(), -2);
    }

    /** "It has 1 to 11 operands". */
    private static void oneToElevenOperands() {
        DUE.is("syntaxError() of no operand", withText("op+1l;expr;").syntaxError(), 6);
        StringBuilder text = new StringBuilder("op+1l;expra");
        for (int operands = 1; operands <= 14; operands++) {
            DisambiguationBench bench = withText(text + ";");
            DUE.is("syntaxError() of " + operands + " operands", bench.syntaxError(), operands <= 11 ? -4 : 6);
            DUE.is("load() of " + operands + " operands", bench.load(), operands <= 11 ? operands - 1 : -2);
            DUE.is("operatorCount() then", bench.operatorCount(), operands <= 11 ? operands - 1 : 4);
            text.append("+z");
        }
    }

    /** "Each of its symbols must be declared by an op statement before it." */
    private static void declaredBefore() {
        String expression = "expra+b-c*d/e%f&g|h<i=j;";
        for (int missing = 0; missing < 9; missing++) {
            StringBuilder declared = new StringBuilder();
            for (int symbol = 0; symbol < 9; symbol++) {
                declared.append(symbol == missing ? "" : "op" + SYMBOLS.charAt(symbol) + "1l;");
            }
            String late = "op" + SYMBOLS.charAt(missing) + "1l;";
            DUE.is("symbol " + missing + " not declared", withText(declared + expression).syntaxError(), 48);
            DUE.is("symbol " + missing + " declared behind it", withText(declared + expression + late).syntaxError(), 48);
            DUE.is("symbol " + missing + " declared before it", withText(declared + late + expression).load(), 9);
        }
    }

    /** "The filters use the priorities and associativities as they are declared at the end of the text". */
    private static void declaredAtTheEnd() {
        for (int symbol = 0; symbol < 9; symbol++) {
            char c = SYMBOLS.charAt(symbol);
            DisambiguationBench bench = Due.loaded("op" + c + "1l;expra" + c + "b" + c + "d;op" + c + "9r;");
            bench.addAssociativityFilter(0);
            DUE.is("priorityOf(" + symbol + ")", bench.priorityOf(symbol), 9);
            DUE.is("treeCount(1) of " + c, bench.treeCount(1), 1);
            DUE.is("operatorAt(1, 0, 0) of " + c, bench.operatorAt(1, 0, 0), 0);
        }
    }

    /** "The initial expression, priorities and associativities are those of the setup text [...]". */
    private static void initialSetup() {
        DisambiguationBench made = new DisambiguationBench();
        DisambiguationBench loaded = Due.loaded("op+4l;op-4l;op*6l;op<2n;expra-b*c+d<e;");
        for (DisambiguationBench bench : new DisambiguationBench[] {made, loaded}) {
            bench.addAssociativityFilter(0);
            bench.addPriorityFilter(1);
        }
        for (int symbol = 0; symbol < 9; symbol++) {
            DUE.is("initial priorityOf(" + symbol + ")", made.priorityOf(symbol), loaded.priorityOf(symbol));
        }
        DUE.is("initial treeCount(1)", made.treeCount(1), loaded.treeCount(1));
        for (int rank = 0; rank <= 14; rank++) {
            DUE.is("initial discardedBy(" + rank + ")", made.discardedBy(rank), loaded.discardedBy(rank));
            DUE.is("initial value(0, " + rank + ")", made.value(0, rank), loaded.value(0, rank));
        }
        DUE.is("the initial setup is not in the text", made.clearText(), 0);
    }

    // ---- trees

    /** "An expression with one operand has exactly one tree, a leaf." */
    private static void leafAlone() {
        DisambiguationBench bench = Due.loaded("op+1n;expry;");
        bench.addPriorityFilter(0);
        bench.addAssociativityFilter(1);
        bench.addRejectFilter(2, 0, 0, true);
        bench.addPreferFilter(3, 0);
        bench.addAvoidFilter(4, 0);
        bench.addAvoidFilter(5, 8);
        for (int filters = 0; filters <= 6; filters++) {
            DUE.is("leaf: treeCount(" + filters + ")", bench.treeCount(filters), 1);
            DUE.is("leaf: survivorRank(" + filters + ", 0)", bench.survivorRank(filters, 0), 0);
            DUE.is("leaf: survivorRank(" + filters + ", 1)", bench.survivorRank(filters, 1), -4);
            DUE.is("leaf: value(" + filters + ", 0)", bench.value(filters, 0), 25);
            DUE.is("leaf: value(" + filters + ", 1)", bench.value(filters, 1), NO_VALUE);
            DUE.is("leaf: distinctValues(" + filters + ")", bench.distinctValues(filters), 1);
            DUE.is("leaf: operatorAt(" + filters + ", 0, 0)", bench.operatorAt(filters, 0, 0), -4);
            DUE.is("leaf: derivations(" + filters + ", 0, 1, 0)", bench.derivations(filters, 0, 1, 0), -1);
            DUE.is("leaf: derivations(" + filters + ", 0, 0, 0)", bench.derivations(filters, 0, 0, 0), -1);
        }
        DUE.is("leaf: discardedBy(0)", bench.discardedBy(0), 6);
        DUE.is("leaf: discardedBy(1)", bench.discardedBy(1), -4);
        DUE.is("leaf: orderMatters(4)", bench.orderMatters(4), 0);
        DUE.is("leaf: symbolOf(0)", bench.symbolOf(0), -1);
    }

    /** "It has 1 to 11 operands": the last operand, the last operator and the last tree of the longest expression. */
    private static void elevenOperands() {
        DisambiguationBench bench = Due.loaded(ELEVEN);
        DUE.is("eleven: symbolOf(9)", bench.symbolOf(9), 0);
        DUE.is("eleven: symbolOf(10)", bench.symbolOf(10), -1);
        DUE.is("eleven: treeCount(0)", bench.treeCount(0), 16796);
        DUE.is("eleven: derivations(0, 0, 10, 9)", bench.derivations(0, 0, 10, 9), 4862);
        DUE.is("eleven: derivations(0, 9, 10, 9)", bench.derivations(0, 9, 10, 9), 1);
        DUE.is("eleven: derivations(0, 0, 11, 9)", bench.derivations(0, 0, 11, 9), -1);
        DUE.is("eleven: derivations(0, 10, 11, 10)", bench.derivations(0, 10, 11, 10), -1);
        DUE.is("eleven: value(0, 0)", bench.value(0, 0), 66);
        DUE.is("eleven: value(0, 16795)", bench.value(0, 16795), 66);
        DUE.is("eleven: value(0, 16796)", bench.value(0, 16796), NO_VALUE);
        bench.setVariable(10, 1000);
        DUE.is("eleven: value(0, 0) with another last operand", bench.value(0, 0), 1055);
        DUE.is("eleven: operatorAt(0, 16795, 9)", bench.operatorAt(0, 16795, 9), 0);
        DUE.is("eleven: operatorAt(0, 16795, 10)", bench.operatorAt(0, 16795, 10), -4);
        DUE.is("eleven: operatorAt(0, 16796, 0)", bench.operatorAt(0, 16796, 0), -4);
        DUE.is("eleven: survivorRank(0, 16795)", bench.survivorRank(0, 16795), 16795);
        DUE.is("eleven: survivorRank(0, 16796)", bench.survivorRank(0, 16796), -4);
        bench.addAssociativityFilter(0);
        DUE.is("eleven: survivorRank(1, 16795), the left-associative tree", bench.survivorRank(1, 16795), 0);
        DUE.is("eleven: discardedBy(16794)", bench.discardedBy(16794), 0);
        DUE.is("eleven: discardedBy(16795)", bench.discardedBy(16795), 1);
        DUE.is("eleven: discardedBy(16796)", bench.discardedBy(16796), -4);
    }

    // ---- filters

    /** "The pipeline holds at most 6 filters at the positions 0, 1, ..." */
    private static void sixFilters() {
        DisambiguationBench bench = new DisambiguationBench();
        for (int i = 0; i < 5; i++) {
            bench.addPreferFilter(i, 5);
        }
        DUE.is("the sixth filter", bench.addPriorityFilter(5), 6);
        DUE.is("the seventh filter", bench.addPriorityFilter(6), -3);
        DUE.is("six: filterCount()", bench.filterCount(), 6);
        DUE.is("six: filterKind(5)", bench.filterKind(5), 0);
        DUE.is("six: filterKind(6)", bench.filterKind(6), -1);
        DUE.is("six: treeCount(5)", bench.treeCount(5), 14);
        DUE.is("six: treeCount(6)", bench.treeCount(6), 2);
        DUE.is("six: treeCount(7)", bench.treeCount(7), -1);
        DUE.is("six: derivations(6, 0, 2, 1)", bench.derivations(6, 0, 2, 1), 0);
        DUE.is("six: derivations(7, 0, 2, 1)", bench.derivations(7, 0, 2, 1), -1);
        DUE.is("six: operatorAt(6, 0, 0)", bench.operatorAt(6, 0, 0), 3);
        DUE.is("six: operatorAt(7, 0, 0)", bench.operatorAt(7, 0, 0), -1);
        DUE.is("six: discardedBy(0)", bench.discardedBy(0), 5);
        DUE.is("six: discardedBy(12)", bench.discardedBy(12), 6);
        DUE.is("six: survivorRank(6, 12)", bench.survivorRank(6, 12), 1);
        DUE.is("six: survivorRank(7, 12)", bench.survivorRank(7, 12), -1);
        DUE.is("six: value(6, 1)", bench.value(6, 1), 1);
        DUE.is("six: value(7, 1)", bench.value(7, 1), NO_VALUE);
        DUE.is("six: distinctValues(6)", bench.distinctValues(6), 1);
        DUE.is("six: distinctValues(7)", bench.distinctValues(7), -1);
        DUE.is("six: orderMatters(4)", bench.orderMatters(4), 0);
        DUE.is("six: orderMatters(5)", bench.orderMatters(5), -2);
        DUE.is("six: orderMatters(6)", bench.orderMatters(6), -1);
        DUE.is("six: swapFilters(5)", bench.swapFilters(5), -2);
        DUE.is("six: swapFilters(6)", bench.swapFilters(6), -1);
        DUE.is("six: swapFilters(4)", bench.swapFilters(4), 0);
        DUE.is("six: removeFilter(6)", bench.removeFilter(6), -1);
        DUE.is("six: removeFilter(5)", bench.removeFilter(5), 5);
        DUE.is("a sixth filter again", bench.addAvoidFilter(5, 0), 6);
        bench.undo();
        bench.undo();
        DUE.is("the sixth filter comes back by undo()", bench.filterKind(5), 3);
        DUE.is("the fifth filter comes back by undo()", bench.filterKind(4), 0);
    }

    /** "PRIORITY: forbids every operator as a direct child [...] of an operator with a strictly higher priority." */
    private static void strictlyHigherPriority() {
        for (int first = 0; first <= 9; first++) {
            for (int second = 0; second <= 9; second++) {
                DisambiguationBench bench = Due.loaded("op+" + first + "l;op=" + second + "l;expra+b=c;");
                bench.addPriorityFilter(0);
                String what = "priorities " + first + " and " + second;
                DUE.is(what + ": treeCount(1)", bench.treeCount(1), first == second ? 2 : 1);
                DUE.is(what + ": operatorAt(1, 0, 0)", bench.operatorAt(1, 0, 0), first <= second ? 0 : 1);
            }
        }
    }

    /** "ASSOCIATIVITY: for two operators of equal priority [...]". */
    private static void equalPriority() {
        for (int priority = 0; priority <= 9; priority++) {
            for (char associativity : "lrn".toCharArray()) {
                String what = "priorities 5 and " + priority + ", associativity " + associativity;
                DisambiguationBench bench = Due.loaded("op+5" + associativity + ";op=" + priority + associativity
                        + ";expra+b=c;");
                bench.addAssociativityFilter(0);
                int left = associativity == 'n' ? 0 : 1;
                DUE.is(what + ": treeCount(1)", bench.treeCount(1), priority == 5 ? left : 2);
                DUE.is(what + ": discardedBy(0)", bench.discardedBy(0), priority == 5 && associativity != 'r' ? 0 : 1);
                DUE.is(what + ": discardedBy(1)", bench.discardedBy(1), priority == 5 && associativity != 'l' ? 0 : 1);
            }
        }
    }

    /** "REJECT: forbids operators with the symbol childSymbol as a direct child, on one given side [...]". */
    private static void rejectOfFirstAndLastSymbol() {
        int[][] filters = {{0, 8, 1}, {0, 8, 0}, {8, 0, 1}, {8, 0, 0}, {0, 0, 0}, {0, 0, 1}, {8, 8, 0}, {8, 8, 1}};
        int[] sumOfEqual = {1, 2, 2, 1, 2, 2, 2, 2};
        int[] equalOfSum = {2, 1, 1, 2, 2, 2, 2, 2};
        for (int i = 0; i < filters.length; i++) {
            int[] f = filters[i];
            DisambiguationBench bench = Due.loaded("op+1l;op=1l;expra+b=c;");
            bench.addRejectFilter(0, f[0], f[1], f[2] == 1);
            DUE.is("a+b=c, reject number " + i, bench.treeCount(1), sumOfEqual[i]);
            bench = Due.loaded("op+1l;op=1l;expra=b+c;");
            bench.addRejectFilter(0, f[0], f[1], f[2] == 1);
            DUE.is("a=b+c, reject number " + i, bench.treeCount(1), equalOfSum[i]);
        }
        DisambiguationBench bench = Due.loaded("op+1l;expra+b+c+d;");
        bench.addRejectFilter(0, 0, 0, true);
        DUE.is("only a direct child is rejected, on one side", bench.treeCount(1), 1);
        bench = Due.loaded("op+1l;op*1l;expra+b*c+d;");
        bench.addRejectFilter(0, 0, 0, true);
        DUE.is("a grandchild is not rejected", bench.discardedBy(0), 1);
        DUE.is("a child is rejected", bench.discardedBy(1), 0);
    }

    /** "PREFER: in each span, if some root with the given symbol has at least one derivation [...]". */
    private static void preferWithOneDerivationOrNone() {
        DisambiguationBench bench = Due.loaded("op+1l;op=1l;expra+b=c;");
        bench.addPreferFilter(0, 8);
        DUE.is("prefer = with one derivation: treeCount(1)", bench.treeCount(1), 1);
        DUE.is("prefer = with one derivation: + is discarded", bench.derivations(1, 0, 2, 0), 0);
        bench.addRejectFilter(0, 8, 0, false);
        DUE.is("prefer = with no derivation: treeCount(2)", bench.treeCount(2), 1);
        DUE.is("prefer = with no derivation: + stays", bench.derivations(2, 0, 2, 0), 1);
        bench.swapFilters(0);
        DUE.is("what is discarded stays discarded", bench.treeCount(2), 0);
        DUE.is("the filter behind has no influence", bench.treeCount(1), 1);
    }

    /** "AVOID: in each span, if some root with another symbol has at least one derivation [...]". */
    private static void avoidWithOneDerivationOrNone() {
        DisambiguationBench bench = Due.loaded("op+1l;op=1l;expra+b=c;");
        bench.addAvoidFilter(0, 0);
        DUE.is("avoid + with one other derivation: treeCount(1)", bench.treeCount(1), 1);
        DUE.is("avoid + with one other derivation: + is discarded", bench.derivations(1, 0, 2, 0), 0);
        bench.addRejectFilter(0, 8, 0, false);
        DUE.is("avoid + with no other derivation: treeCount(2)", bench.treeCount(2), 1);
        DUE.is("avoid + with no other derivation: + stays", bench.derivations(2, 0, 2, 0), 1);
        bench.swapFilters(0);
        DUE.is("what is avoided stays discarded", bench.treeCount(2), 0);
        DUE.is("the filter behind has no influence on avoid", bench.treeCount(1), 1);
    }

    /** "In each span": in the shortest spans there is but one root, which no filter discards. */
    private static void spanOfOneOperator() {
        for (int symbol = 0; symbol < 9; symbol++) {
            DisambiguationBench bench = new DisambiguationBench();
            bench.addPreferFilter(0, symbol);
            bench.addAvoidFilter(1, symbol);
            for (int operator = 0; operator < 4; operator++) {
                DUE.is("prefer " + symbol + ", alone", bench.derivations(1, operator, operator + 1, operator), 1);
                DUE.is("avoid " + symbol + ", alone", bench.derivations(2, operator, operator + 1, operator), 1);
            }
        }
    }

    // ---- values

    /** "Each letter is a variable with an int value; initially a is 1, b is 2, ..., z is 26." */
    private static void initialLetters() {
        for (char letter = 'a'; letter <= 'z'; letter++) {
            DisambiguationBench bench = Due.loaded("expr" + letter + ";");
            DUE.is("value(0, 0) of " + letter, bench.value(0, 0), letter - 'a' + 1);
            bench.setVariable(letter - 'a', -1000000000);
            DUE.is("value(0, 0) of another " + letter, bench.value(0, 0), -1000000000);
        }
    }

    /** The value of ((a+b)+c) SYMBOL d, where a+b+c may be any int. */
    private static long valueOf(long left, char symbol, int right) {
        DisambiguationBench bench = Due.loaded("op+1l;op" + symbol + "1l;expra+b+c" + symbol + "d;");
        bench.setVariable(0, (int) (left / 3));
        bench.setVariable(1, (int) (left / 3));
        bench.setVariable(2, (int) (left - left / 3 * 2));
        bench.setVariable(3, right);
        return bench.value(0, 4);
    }

    /** "If +, -, * or / (Integer.MIN_VALUE divided by -1) would overflow [...]": + and -. */
    private static void sumsAtTheEdges() {
        for (int step = 0; step <= 1000000000; step = step * 10 + 1) {
            DUE.is("up to the greatest int by " + step, valueOf(MOST - step, '+', step), MOST);
            DUE.is("over the greatest int by " + step, valueOf(MOST - step, '+', step + 1), OVERFLOW);
            DUE.is("down to the least int by -" + step, valueOf(LEAST + step, '+', -step), LEAST);
            DUE.is("below the least int by -" + step, valueOf(LEAST + step, '+', -step - 1), OVERFLOW);
            DUE.is("down to the least int by " + step, valueOf(LEAST + step, '-', step), LEAST);
            DUE.is("below the least int by " + step, valueOf(LEAST + step, '-', step + 1), OVERFLOW);
            DUE.is("up to the greatest int by - -" + step, valueOf(MOST - step, '-', -step), MOST);
            DUE.is("over the greatest int by - -" + step, valueOf(MOST - step, '-', -step - 1), OVERFLOW);
        }
    }

    /** "If +, -, * or / (Integer.MIN_VALUE divided by -1) would overflow [...]": *. */
    private static void productsAtTheEdges() {
        DUE.is("least*1", valueOf(LEAST, '*', 1), LEAST);
        DUE.is("least*-1", valueOf(LEAST, '*', -1), OVERFLOW);
        DUE.is("least*0", valueOf(LEAST, '*', 0), 0);
        DUE.is("(least+1)*-1", valueOf(LEAST + 1, '*', -1), MOST);
        DUE.is("most*-1", valueOf(MOST, '*', -1), LEAST + 1);
        DUE.is("most*2", valueOf(MOST, '*', 2), OVERFLOW);
        DUE.is("1073741823*2", valueOf(1073741823, '*', 2), MOST - 1);
        DUE.is("1073741824*2", valueOf(1073741824, '*', 2), OVERFLOW);
        DUE.is("1073741824*-2", valueOf(1073741824, '*', -2), LEAST);
        DUE.is("1073741825*-2", valueOf(1073741825, '*', -2), OVERFLOW);
        DUE.is("65536*65536, which wraps around to 0", valueOf(65536, '*', 65536), OVERFLOW);
        DUE.is("least*1000000000", valueOf(LEAST, '*', 1000000000), OVERFLOW);
        DUE.is("least*-1000000000", valueOf(LEAST, '*', -1000000000), OVERFLOW);
    }

    /** "If the divisor of / or % is 0, it is DIVISION_BY_ZERO." */
    private static void quotientsAtTheEdges() {
        DUE.is("least/-1", valueOf(LEAST, '/', -1), OVERFLOW);
        DUE.is("(least+1)/-1", valueOf(LEAST + 1, '/', -1), MOST);
        DUE.is("least/1", valueOf(LEAST, '/', 1), LEAST);
        DUE.is("least%-1, which does not overflow", valueOf(LEAST, '%', -1), 0);
        DUE.is("least%1000000000", valueOf(LEAST, '%', 1000000000), -147483648);
        DUE.is("most%-1000000000", valueOf(MOST, '%', -1000000000), 147483647);
        for (long left : new long[] {LEAST, -1, 0, 1, MOST}) {
            DUE.is(left + "/0", valueOf(left, '/', 0), DIVISION_BY_ZERO);
            DUE.is(left + "%0", valueOf(left, '%', 0), DIVISION_BY_ZERO);
        }
        DUE.is("least&most", valueOf(LEAST, '&', 1000000000), 0);
        DUE.is("least|1", valueOf(LEAST, '|', 1), LEAST + 1);
        DUE.is("least<-1000000000", valueOf(LEAST, '<', -1000000000), 1);
        DUE.is("most<1000000000", valueOf(MOST, '<', 1000000000), 0);
    }

    /** "The first failure that the evaluation meets is the result.": left before right, and both before their root. */
    private static void firstFailure() {
        String text = "op+1l;op/1l;op*1l;expra/z+b*b+c/y;";
        int leftFirst = rankOf(text, 1, 0, 3, 2, 4);
        int leftLast = rankOf(text, 3, 1, 0, 2, 4);
        int inFactor = rankOf(text, 1, 0, 2, 3, 4);
        int inDividend = rankOf(text, 1, 0, 4, 2, 3);
        int inDivisor = rankOf(text, 0, 3, 1, 2, 4);
        DisambiguationBench bench = Due.loaded(text);
        bench.setVariable(1, 1000000000);
        bench.setVariable(24, 0);
        DUE.is("a/z+(b*b+c/0)", bench.value(0, leftFirst), OVERFLOW);
        DUE.is("(a/z+b*b)+c/0", bench.value(0, leftLast), OVERFLOW);
        DUE.is("a/z+b*(b+c/0)", bench.value(0, inFactor), DIVISION_BY_ZERO);
        DUE.is("a/z+b*(b+c)/0", bench.value(0, inDividend), OVERFLOW);
        bench.setVariable(25, 0);
        DUE.is("a/0+(b*b+c/0)", bench.value(0, leftFirst), DIVISION_BY_ZERO);
        DUE.is("a/(0+b*b+c/0)", bench.value(0, inDivisor), OVERFLOW);
        bench.setVariable(1, 1);
        DUE.is("a/(0+1*1+c/0)", bench.value(0, inDivisor), DIVISION_BY_ZERO);
        bench.setVariable(24, -1);
        DUE.is("a/(0+1*1+c/-1), no failure", bench.value(0, inDivisor), 0);
        bench.setVariable(2, 1);
        DUE.is("a/(0+1*1+1/-1), the root fails", bench.value(0, inDivisor), DIVISION_BY_ZERO);
    }

    /** The rank of the tree whose operators are these in preorder, looked for in an object of its own. */
    private static int rankOf(String text, int... preorder) {
        DisambiguationBench bench = Due.loaded(text);
        int trees = bench.treeCount(0);
        for (int rank = 0; rank < trees; rank++) {
            boolean found = true;
            for (int i = 0; i < preorder.length && found; i++) {
                found = bench.operatorAt(0, rank, i) == preorder[i];
            }
            if (found) {
                return rank;
            }
        }
        throw new IllegalStateException("there is no such tree");
    }

    // ---- history and errors

    /** "The last 4 edits can be undone". */
    private static void lastFourEdits() {
        for (int edits = 0; edits <= 6; edits++) {
            DisambiguationBench bench = new DisambiguationBench();
            for (int i = 0; i < edits; i++) {
                bench.addPriorityFilter(0);
            }
            int undone = Math.min(edits, 4);
            DUE.is("historySize() of " + edits + " edits", bench.historySize(), undone);
            for (int left = undone - 1; left >= 0; left--) {
                DUE.is("undo() to " + left, bench.undo(), left);
            }
            DUE.is("undo() of one edit more", bench.undo(), -2);
            DUE.is("filterCount() in the end", bench.filterCount(), edits - undone);
            DUE.is("historySize() in the end", bench.historySize(), 0);
        }
    }

    /** "The last 4 edits can be undone", also when edits and undos have gone to and fro many times. */
    private static void historyAfterManyEdits() {
        DisambiguationBench bench = Due.loaded("expra;");
        Deque<Integer> before = new ArrayDeque<>();
        int present = 1;
        for (int step = 0; step < 120; step++) {
            // Three edits, then two undos; every ninth round goes back as far as it can.
            int turn = step % 45 >= 40 ? 3 : step % 5;
            if (turn < 3) {
                before.addLast(present);
                present = 100 + step;
                bench.setVariable(0, present);
            } else if (before.isEmpty()) {
                DUE.is("step " + step + ": undo() of none", bench.undo(), -2);
            } else {
                present = before.removeLast();
                DUE.is("step " + step + ": undo()", bench.undo(), before.size());
            }
            if (before.size() > 4) {
                before.removeFirst();
            }
            DUE.is("step " + step + ": value(0, 0)", bench.value(0, 0), present);
            DUE.is("step " + step + ": historySize()", bench.historySize(), before.size());
        }
    }

    /** "Loading a setup clears this history.": a load that is refused does not. */
    private static void loadingClearsHistory() {
        DisambiguationBench bench = new DisambiguationBench();
        for (int i = 0; i < 4; i++) {
            bench.setVariable(0, i);
        }
        DUE.is("a refused load()", bench.load(), -2);
        DUE.is("historySize() after a refused load()", bench.historySize(), 4);
        Due.append(bench, "expra;");
        DUE.is("load()", bench.load(), 0);
        DUE.is("historySize() after load()", bench.historySize(), 0);
        DUE.is("undo() after load()", bench.undo(), -2);
        DUE.is("value(0, 0) after load() and undo()", bench.value(0, 0), 1);
    }

    /** "If several errors apply to a call, INVALID_ARGUMENT is returned rather than INVALID_STATE, [...]". */
    private static void orderOfErrors() {
        DisambiguationBench bench = withText("x".repeat(200));
        DUE.is("a bad character for a full text", bench.append(31), -1);
        bench = Due.loaded(ELEVEN);
        for (int i = 0; i < 6; i++) {
            bench.addPreferFilter(0, 1);
        }
        DUE.is("a bad position for a full pipeline", bench.addPriorityFilter(7), -1);
        DUE.is("a bad position for a full pipeline", bench.addAssociativityFilter(-1), -1);
        DUE.is("a bad parent for a full pipeline", bench.addRejectFilter(0, 9, 0, true), -1);
        DUE.is("a bad child for a full pipeline", bench.addRejectFilter(0, 0, -1, true), -1);
        DUE.is("a bad position of a reject for a full pipeline", bench.addRejectFilter(7, 0, 0, true), -1);
        DUE.is("a bad symbol for a full pipeline", bench.addPreferFilter(6, 9), -1);
        DUE.is("a bad position of a prefer for a full pipeline", bench.addPreferFilter(7, 0), -1);
        DUE.is("a bad symbol for a full pipeline", bench.addAvoidFilter(6, -1), -1);
        DUE.is("a bad position of an avoid for a full pipeline", bench.addAvoidFilter(-1, 0), -1);
        DUE.is("bad filters of too many trees", bench.distinctValues(7), -1);
        DUE.is("good filters of too many trees", bench.distinctValues(6), -3);
        DUE.is("bad filters and no such tree", bench.operatorAt(7, MOST, 0), -1);
        DUE.is("bad preorder and no such tree", bench.operatorAt(0, MOST, -1), -1);
        DUE.is("bad rank and no such node", bench.operatorAt(0, -1, MOST), -1);
        DUE.is("bad filters and no such tree", bench.survivorRank(7, MOST), -1);
        DUE.is("bad rank in a full pipeline", bench.survivorRank(6, LEAST), -1);
    }
}
