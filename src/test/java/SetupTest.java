/** Promises 1 to 5: a new object and its setup text. */
public final class SetupTest {
    private static final Due DUE = new Due("SetupTest");

    public static void main(String[] args) {
        newObject();
        newObjectVariables();
        appendRange();
        appendLimit();
        clearText();
        wellFormedTexts();
        malformedDeclarations();
        malformedExpressions();
        firstMalformedStatement();
        syntaxErrorChangesNothing();
        loadAnswers();
        loadReplacesDeclarations();
        loadStartsAnew();
        loadKeepsText();
        refusedLoadChangesNothing();
        DUE.finish();
    }

    // ---- promise 1

    private static void newObject() {
        DisambiguationBench bench = new DisambiguationBench();
        DUE.is("new: operatorCount()", bench.operatorCount(), 4);
        DUE.is("new: filterCount()", bench.filterCount(), 0);
        DUE.is("new: historySize()", bench.historySize(), 0);
        DUE.is("new: undo()", bench.undo(), -2);
        int[] symbols = {1, 2, 0, 7};
        for (int i = 0; i < 4; i++) {
            DUE.is("new: symbolOf(" + i + ")", bench.symbolOf(i), symbols[i]);
        }
        int[] priorities = {4, 4, 6, -4, -4, -4, -4, 2, -4};
        for (int i = 0; i < 9; i++) {
            DUE.is("new: priorityOf(" + i + ")", bench.priorityOf(i), priorities[i]);
        }
        DUE.is("new: treeCount(0)", bench.treeCount(0), 14);
        DUE.is("new: syntaxError()", bench.syntaxError(), -4);
        DUE.is("new: load()", bench.load(), -2);
        DUE.is("new: clearText()", bench.clearText(), 0);
        bench.addPriorityFilter(0);
        DUE.is("new: treeCount(1) by priority", bench.treeCount(1), 2);
        bench.addAssociativityFilter(1);
        DUE.is("new: treeCount(2) by associativity", bench.treeCount(2), 1);
        DUE.is("new: operatorAt(2, 0, 2)", bench.operatorAt(2, 0, 2), 0);
    }

    private static void newObjectVariables() {
        DisambiguationBench bench = new DisambiguationBench();
        DUE.is("new: value(0, 0)", bench.value(0, 0), -7);
        DUE.is("new: value(0, 5)", bench.value(0, 5), -4);
        DUE.is("new: value(0, 13)", bench.value(0, 13), 1);
        for (int letter = 0; letter < 26; letter++) {
            DUE.is("new: setVariable(" + letter + ", " + (letter + 1) + ")", bench.setVariable(letter, letter + 1), 0);
        }
    }

    // ---- promise 2

    private static void appendRange() {
        DisambiguationBench bench = new DisambiguationBench();
        int[] refused = {31, 127, 0, -1, 10, 128, 65536 + 65, Integer.MIN_VALUE, Integer.MAX_VALUE};
        for (int character : refused) {
            DUE.is("append(" + character + ")", bench.append(character), -1);
        }
        DUE.is("append(32)", bench.append(32), 1);
        DUE.is("append(126)", bench.append(126), 2);
        DUE.is("append(97)", bench.append(97), 3);
        DUE.is("clearText() after refused ones", bench.clearText(), 3);
    }

    private static void appendLimit() {
        DisambiguationBench bench = new DisambiguationBench();
        for (int i = 1; i <= 200; i++) {
            DUE.is("append number " + i, bench.append('x'), i);
        }
        DUE.is("append number 201", bench.append('x'), -3);
        DUE.is("append of a bad character to a full text", bench.append(127), -1);
        DUE.is("clearText() of a full text", bench.clearText(), 200);
        DUE.is("append after clearText()", bench.append('x'), 1);
    }

    // ---- promise 3

    private static void clearText() {
        DisambiguationBench bench = new DisambiguationBench();
        DUE.is("clearText() of an empty text", bench.clearText(), 0);
        Due.append(bench, "op+4l;x");
        DUE.is("syntaxError() before clearText()", bench.syntaxError(), 6);
        DUE.is("clearText()", bench.clearText(), 7);
        DUE.is("clearText() again", bench.clearText(), 0);
        DUE.is("syntaxError() after clearText()", bench.syntaxError(), -4);
        Due.append(bench, "expra;");
        DUE.is("load() of the new text alone", bench.load(), 0);
        DUE.is("operatorCount()", bench.operatorCount(), 0);
    }

    // ---- promise 4

    private static void syntax(String text, int want) {
        DisambiguationBench bench = new DisambiguationBench();
        Due.append(bench, text);
        DUE.is("syntaxError() of " + text, bench.syntaxError(), want);
        boolean loads = want == -4 && text.contains("expr");
        DUE.holds("load() of " + text + " as its syntax says", (bench.load() != -2) == loads);
    }

    private static void wellFormedTexts() {
        for (char symbol : "+-*/%&|<=".toCharArray()) {
            syntax("op" + symbol + "5l;expra" + symbol + "z;", -4);
        }
        syntax("", -4);
        syntax("op+0l;op+9r;op+5n;", -4);
        syntax("expra;", -4);
        syntax("exprz;op+1l;", -4);
        syntax("op+1l;expra+b+c+d+e+f+g+h+i+j+k;", -4);
        syntax("op+1l;op-1l;expra+a-a;op+2r;", -4);
    }

    private static void malformedDeclarations() {
        String[] texts = {
            "op", "o", "p", "op+", "op+4", "op+4l", "op+4l ", "op;", "op+;", "op+4;", "op+l;", "op4l;", "op+4ll;",
            "op+44l;", "op++4l;", "op+4x;", "op+4L;", "op+/l;", "op+:l;", "op!4l;", "op>4l;", "opa4l;", "Op+4l;", "oP+4l;",
            " op+4l;", "op +4l;", "op+4l ;", "op+4lop-4l;", ";", "x;", "xy;", "xyz;", "opx;", "ox+4l;", "xp+4l;", "op;4l;",
        };
        for (String text : texts) {
            syntax(text, 0);
        }
    }

    private static void malformedExpressions() {
        String[] texts = {
            "e", "expr", "e;", "ex;", "exp;", "expr;", "expra", "exprab;", "expra+b;", "expra+;", "expr+a;", "expr+;", "exprA;", "expr1;",
            "expr`;", "expr{;", "expr a;", "expra ;", "exprr", "Expra;", "exqra;", "expa;", "xpra;", "expsa;", "expra;;a"
        };
        for (String text : texts) {
            syntax(text, text.equals("expra;;a") ? 6 : 0);
        }
        syntax("op+1l;expra+;", 6);
        syntax("op+1l;expra+b+;", 6);
        syntax("op+1l;expra++b;", 6);
        syntax("op+1l;expra-b;", 6);
        syntax("op+1l;expra+b-c;", 6);
        syntax("op+1l;expra+B;", 6);
        syntax("op+1l;expra+`;", 6);
        syntax("op+1l;expra+{;", 6);
        syntax("op+1l;expra+bc;", 6);
        syntax("op+1l;expra+b", 6);
        syntax("op+1l;expra+b+c+d+e+f+g+h+i+j+k+l;", 6);
        syntax("op+1l;expra+b+c+d+e+f+g+h+i+j+k+;", 6);
        syntax("expra+b;op+1l;", 0);
        syntax("op+1l;expra+b-c;op-1l;", 6);
        syntax("expra;exprb;", 6);
        syntax("op+1l;expra+b;expra+b;", 14);
    }

    private static void firstMalformedStatement() {
        syntax("op+1l;;", 6);
        syntax("op+1l;op;op+1l;", 6);
        syntax("op+1l;op-2r;x;y;", 12);
        syntax("x;op+1l;expra+b", 0);
        syntax("op+1l;expra+b;op-1", 14);
        syntax("op+1l;exprab;exprc;", 6);
    }

    private static void syntaxErrorChangesNothing() {
        DisambiguationBench bench = new DisambiguationBench();
        bench.setVariable(0, 9);
        bench.addPriorityFilter(0);
        Due.append(bench, "op+1r;expra+b;");
        DUE.is("syntaxError()", bench.syntaxError(), -4);
        DUE.is("operatorCount() after syntaxError()", bench.operatorCount(), 4);
        DUE.is("priorityOf(0) after syntaxError()", bench.priorityOf(0), 4);
        DUE.is("filterCount() after syntaxError()", bench.filterCount(), 1);
        DUE.is("historySize() after syntaxError()", bench.historySize(), 2);
        DUE.is("clearText() after syntaxError()", bench.clearText(), 14);
    }

    // ---- promise 5

    private static void loadAnswers() {
        DisambiguationBench bench = new DisambiguationBench();
        DUE.is("load() of an empty text", bench.load(), -2);
        Due.append(bench, "op+1l;");
        DUE.is("load() without an expr statement", bench.load(), -2);
        Due.append(bench, "expra+b+c;");
        DUE.is("load() of two operators", bench.load(), 2);
        Due.append(bench, "x");
        DUE.is("load() of a malformed text", bench.load(), -2);
        bench.clearText();
        Due.append(bench, "op+1l;expra+b+c+d+e+f+g+h+i+j+k;");
        DUE.is("load() of ten operators", bench.load(), 10);
        bench.clearText();
        Due.append(bench, "exprq;");
        DUE.is("load() of one operand", bench.load(), 0);
        DUE.is("value(0, 0) of q", bench.value(0, 0), 17);
    }

    private static void loadReplacesDeclarations() {
        DisambiguationBench bench = Due.loaded("op+1l;op/3r;op+7r;expra+b/c+d;op/2n;");
        DUE.is("priorityOf(+), declared twice", bench.priorityOf(0), 7);
        DUE.is("priorityOf(/), declared again behind the expression", bench.priorityOf(3), 2);
        DUE.is("priorityOf(-), of the initial setup alone", bench.priorityOf(1), -4);
        DUE.is("priorityOf(*), of the initial setup alone", bench.priorityOf(2), -4);
        int[] symbols = {0, 3, 0};
        for (int i = 0; i < 3; i++) {
            DUE.is("symbolOf(" + i + ") of the new expression", bench.symbolOf(i), symbols[i]);
        }
        DUE.is("symbolOf(3) of the new expression", bench.symbolOf(3), -1);
        bench.clearText();
        Due.append(bench, "op+1l;expra+b+c;op+1r;");
        bench.load();
        bench.addAssociativityFilter(0);
        DUE.is("operatorAt(1, 0, 0) by the later associativity", bench.operatorAt(1, 0, 0), 0);
        DUE.is("priorityOf(/) of the setup before", bench.priorityOf(3), -4);
    }

    private static void loadStartsAnew() {
        DisambiguationBench bench = Due.loaded("op+1l;expra+b;");
        for (int letter = 0; letter < 26; letter++) {
            bench.setVariable(letter, 1000);
        }
        bench.addPriorityFilter(0);
        DUE.is("load() again", bench.load(), 1);
        DUE.is("filterCount() after load()", bench.filterCount(), 0);
        DUE.is("historySize() after load()", bench.historySize(), 0);
        DUE.is("undo() after load()", bench.undo(), -2);
        DUE.is("value(0, 0) after load()", bench.value(0, 0), 3);
        for (int letter = 0; letter < 26; letter++) {
            DUE.is("variable " + letter + " after load()", bench.setVariable(letter, letter + 1), 0);
        }
    }

    private static void loadKeepsText() {
        DisambiguationBench bench = Due.loaded("op+1l;expra+b;");
        DUE.is("append after load()", bench.append('o'), 15);
        DUE.is("syntaxError() after load()", bench.syntaxError(), 14);
        DUE.is("clearText() after load()", bench.clearText(), 15);
        DUE.is("operatorCount() after clearText()", bench.operatorCount(), 1);
    }

    private static void refusedLoadChangesNothing() {
        for (String text : new String[] {"", "op+9r;", "op+9r;expra+b;x", "op+9r;expra+b;exprc;"}) {
            DisambiguationBench bench = new DisambiguationBench();
            bench.addPreferFilter(0, 2);
            bench.setVariable(0, 50);
            Due.append(bench, text);
            DUE.is("load() of " + text, bench.load(), -2);
            DUE.is("operatorCount() after a refused load()", bench.operatorCount(), 4);
            DUE.is("symbolOf(0) after a refused load()", bench.symbolOf(0), 1);
            DUE.is("priorityOf(0) after a refused load()", bench.priorityOf(0), 4);
            DUE.is("filterCount() after a refused load()", bench.filterCount(), 1);
            DUE.is("historySize() after a refused load()", bench.historySize(), 2);
            DUE.is("setVariable(0, 50) after a refused load()", bench.setVariable(0, 50), 0);
            DUE.is("clearText() after a refused load()", bench.clearText(), text.length());
        }
    }
}
