import java.util.HashSet;
import java.util.Set;

/** Promises 21 to 25: single trees, their ranks and their values. */
public final class TreesTest {
    private static final Due DUE = new Due("TreesTest");
    private static final int PLUS = 0, MINUS = 1, TIMES = 2, OR = 6;
    private static final long OVERFLOW = 1L << 40, DIVISION_BY_ZERO = 1L << 41, NO_VALUE = 1L << 42;
    private static final int LEAST = Integer.MIN_VALUE, MOST = Integer.MAX_VALUE;
    private static final int BILLION = 1000000000;

    private static final String SUM_OF_PRODUCT = "op+1l;op*2l;expra+b*c;";

    /** Just 300 trees are left by a REJECT of * under + on the left. */
    private static final String THREE_HUNDRED = "op+1l;op-1r;op*2n;expra*b-c*d-e+f-g+h;";

    /** Just 300 trees are left by two REJECTs, with as many different values. */
    private static final String ALL_DIFFERENT = "op*1l;op|1l;op-1l;expra*b*c|d*e|f*g*h-i;";
    private static final int[] ALL_DIFFERENT_LETTERS = {40, 19, 34, 10, 8, 22, 6, 37, 27};

    /** Just 301 trees are left by an ASSOCIATIVITY filter. */
    private static final String ONE_MORE = "op+1l;op-1r;op*2n;expra*b+c+d*e*f-g+h+i+j;";

    public static void main(String[] args) {
        operatorAtOfAllTrees();
        operatorAtOfSurvivors();
        operatorAtRange();
        discardedBy();
        discardedByRange();
        survivorRank();
        survivorRankRange();
        valueOfEachOperator();
        valueAtTheEdgesOfInt();
        valueOfTheLeastInt();
        valueIsTheFirstFailure();
        valueOfComparisonsAndOneOperand();
        valueRange();
        distinctValues();
        distinctValuesLimit();
        mostDistinctValues();
        DUE.finish();
    }

    // ---- promise 21

    private static void operatorAtOfAllTrees() {
        String[] due = {
            "0123", "0132", "0213", "0312", "0321", "1023", "1032", "2013", "2103", "3012", "3021", "3102", "3201", "3210",
        };
        DisambiguationBench bench = new DisambiguationBench();
        for (int rank = 0; rank < due.length; rank++) {
            for (int i = 0; i < 4; i++) {
                DUE.is("operatorAt(0, " + rank + ", " + i + ")", bench.operatorAt(0, rank, i), due[rank].charAt(i) - '0');
            }
            DUE.is("operatorAt(0, " + rank + ", 4)", bench.operatorAt(0, rank, 4), -4);
        }
    }

    private static void operatorAtOfSurvivors() {
        DisambiguationBench bench = new DisambiguationBench();
        bench.addPriorityFilter(0);
        String[] due = {"3021", "3201"};
        for (int rank = 0; rank < 2; rank++) {
            for (int i = 0; i < 4; i++) {
                DUE.is("operatorAt(1, " + rank + ", " + i + ")", bench.operatorAt(1, rank, i), due[rank].charAt(i) - '0');
            }
        }
        DUE.is("operatorAt(1, 2, 0)", bench.operatorAt(1, 2, 0), -4);
        DUE.is("operatorAt(0, 2, 0)", bench.operatorAt(0, 2, 0), 0);
        bench = Due.loaded("op+1l;expra+b+c+d+e+f+g+h+i+j+k;");
        for (int i = 0; i < 10; i++) {
            DUE.is("first tree of ten", bench.operatorAt(0, 0, i), i);
            DUE.is("last tree of ten", bench.operatorAt(0, 16795, i), 9 - i);
        }
        DUE.is("operatorAt(0, 16796, 0)", bench.operatorAt(0, 16796, 0), -4);
        DUE.is("operatorAt(0, 0, 10)", bench.operatorAt(0, 0, 10), -4);
    }

    private static void operatorAtRange() {
        DisambiguationBench bench = new DisambiguationBench();
        int[][] calls = {
            {1, 0, 0, -1}, {-1, 0, 0, -1}, {0, -1, 0, -1}, {0, 0, -1, -1}, {0, 14, -1, -1}, {0, -1, 4, -1}, {1, 14, 4, -1},
            {MOST, 0, 0, -1}, {LEAST, 0, 0, -1}, {0, LEAST, 0, -1}, {0, 0, LEAST, -1}, {0, MOST, 0, -4}, {0, 0, MOST, -4},
            {0, 14, 0, -4}, {0, 13, 4, -4}, {0, 14, 4, -4},
        };
        for (int[] c : calls) {
            DUE.is("operatorAt(" + c[0] + ", " + c[1] + ", " + c[2] + ")", bench.operatorAt(c[0], c[1], c[2]), c[3]);
        }
        bench = Due.loaded("expra;");
        DUE.is("operatorAt(0, 0, 0) of a leaf", bench.operatorAt(0, 0, 0), -4);
        DUE.is("operatorAt(0, 1, 0) of a leaf", bench.operatorAt(0, 1, 0), -4);
        bench = Due.loaded("op+1n;expra+b+c;");
        bench.addAssociativityFilter(0);
        DUE.is("operatorAt(1, 0, 0) of no tree", bench.operatorAt(1, 0, 0), -4);
    }

    // ---- promise 22

    private static void discardedBy() {
        DisambiguationBench bench = new DisambiguationBench();
        DUE.is("discardedBy(5) without filters", bench.discardedBy(5), 0);
        bench.addPriorityFilter(0);
        bench.addAssociativityFilter(1);
        for (int rank = 0; rank < 14; rank++) {
            DUE.is("discardedBy(" + rank + ")", bench.discardedBy(rank), rank == 10 ? 1 : rank == 12 ? 2 : 0);
        }
        bench.addPriorityFilter(2);
        DUE.is("discardedBy(12) of three filters", bench.discardedBy(12), 3);
        bench = Due.loaded(SUM_OF_PRODUCT);
        bench.addPreferFilter(0, TIMES);
        bench.addRejectFilter(1, TIMES, PLUS, false);
        DUE.is("prefer and reject: discardedBy(0)", bench.discardedBy(0), 0);
        DUE.is("prefer and reject: discardedBy(1)", bench.discardedBy(1), 1);
        bench.swapFilters(0);
        DUE.is("reject and prefer: discardedBy(0)", bench.discardedBy(0), 2);
        DUE.is("reject and prefer: discardedBy(1)", bench.discardedBy(1), 0);
        bench = Due.loaded("op+1l;op*1l;expra*b+c*d;");
        bench.addRejectFilter(0, TIMES, TIMES, true);
        bench.addAvoidFilter(1, PLUS);
        int[] due = {1, 0, 1, 2, 1};
        for (int rank = 0; rank < 5; rank++) {
            DUE.is("reject and avoid: discardedBy(" + rank + ")", bench.discardedBy(rank), due[rank]);
        }
    }

    private static void discardedByRange() {
        DisambiguationBench bench = new DisambiguationBench();
        DUE.is("discardedBy(-1)", bench.discardedBy(-1), -1);
        DUE.is("discardedBy(LEAST)", bench.discardedBy(LEAST), -1);
        DUE.is("discardedBy(13)", bench.discardedBy(13), 0);
        DUE.is("discardedBy(14)", bench.discardedBy(14), -4);
        DUE.is("discardedBy(MOST)", bench.discardedBy(MOST), -4);
        bench = Due.loaded("expra;");
        bench.addPreferFilter(0, 0);
        bench.addAvoidFilter(0, 0);
        DUE.is("discardedBy(0) of a leaf", bench.discardedBy(0), 2);
        DUE.is("discardedBy(1) of a leaf", bench.discardedBy(1), -4);
    }

    // ---- promise 23

    private static void survivorRank() {
        DisambiguationBench bench = new DisambiguationBench();
        bench.addPriorityFilter(0);
        bench.addAssociativityFilter(1);
        for (int rank = 0; rank < 14; rank++) {
            DUE.is("survivorRank(0, " + rank + ")", bench.survivorRank(0, rank), rank);
            DUE.is("survivorRank(1, " + rank + ")", bench.survivorRank(1, rank), rank == 10 ? 0 : rank == 12 ? 1 : -4);
            DUE.is("survivorRank(2, " + rank + ")", bench.survivorRank(2, rank), rank == 12 ? 0 : -4);
        }
        bench = new DisambiguationBench();
        bench.addPreferFilter(0, TIMES);
        for (int rank = 0; rank < 14; rank++) {
            DUE.is("prefer *: survivorRank(1, " + rank + ")", bench.survivorRank(1, rank),
                    rank == 5 ? 0 : rank == 6 ? 1 : -4);
        }
        survivorsKeepTheirOrder("a*b-c+d*e-f", TIMES, MINUS, true);
        survivorsKeepTheirOrder("a*b*c+d*e*f", TIMES, PLUS, true);
        survivorsKeepTheirOrder("a*b*c+d*e-f", PLUS, MINUS, true);
        survivorsKeepTheirOrder("a-b*c+d*e-f", PLUS, MINUS, false);
        survivorsKeepTheirOrder("a-b*c+d*e-f", PLUS, TIMES, false);
    }

    private static void survivorsKeepTheirOrder(String expression, int parent, int child, boolean rightSide) {
        DisambiguationBench bench = Due.loaded("op+1l;op-1r;op*2n;expr" + expression + ";");
        bench.addRejectFilter(0, parent, child, rightSide);
        int survivors = 0;
        for (int rank = 0; rank < 42; rank++) {
            boolean survives = bench.discardedBy(rank) == 1;
            DUE.is("survivorRank(1, " + rank + ")", bench.survivorRank(1, rank), survives ? survivors : -4);
            for (int i = 0; i < 5 && survives; i++) {
                DUE.is("the same tree by either rank", bench.operatorAt(1, survivors, i), bench.operatorAt(0, rank, i));
            }
            survivors += survives ? 1 : 0;
        }
        DUE.is("treeCount(1)", bench.treeCount(1), survivors);
    }

    private static void survivorRankRange() {
        DisambiguationBench bench = new DisambiguationBench();
        int[][] calls = {
            {1, 0, -1}, {-1, 0, -1}, {0, -1, -1}, {1, 14, -1}, {LEAST, 0, -1}, {MOST, 0, -1}, {0, LEAST, -1}, {0, 13, 13},
            {0, 14, -4}, {0, MOST, -4},
        };
        for (int[] c : calls) {
            DUE.is("survivorRank(" + c[0] + ", " + c[1] + ")", bench.survivorRank(c[0], c[1]), c[2]);
        }
        bench = Due.loaded("expra;");
        DUE.is("survivorRank(0, 0) of a leaf", bench.survivorRank(0, 0), 0);
        DUE.is("survivorRank(0, 1) of a leaf", bench.survivorRank(0, 1), -4);
    }

    // ---- promise 24

    private static long valueOf(char symbol, int a, int b) {
        DisambiguationBench bench = Due.loaded("op" + symbol + "1l;expra" + symbol + "b;");
        bench.setVariable(0, a);
        bench.setVariable(1, b);
        return bench.value(0, 0);
    }

    private static void valueOfEachOperator() {
        DUE.is("17+5", valueOf('+', 17, 5), 22);
        DUE.is("5-17", valueOf('-', 5, 17), -12);
        DUE.is("17*-5", valueOf('*', 17, -5), -85);
        DUE.is("17/5", valueOf('/', 17, 5), 3);
        DUE.is("-17/5", valueOf('/', -17, 5), -3);
        DUE.is("17%5", valueOf('%', 17, 5), 2);
        DUE.is("-17%5", valueOf('%', -17, 5), -2);
        DUE.is("17%-5", valueOf('%', 17, -5), 2);
        DUE.is("12&10", valueOf('&', 12, 10), 8);
        DUE.is("-1&10", valueOf('&', -1, 10), 10);
        DUE.is("-4&-2", valueOf('&', -4, -2), -4);
        DUE.is("12|10", valueOf('|', 12, 10), 14);
        DUE.is("-4|1", valueOf('|', -4, 1), -3);
        DUE.is("1/0", valueOf('/', 1, 0), DIVISION_BY_ZERO);
        DUE.is("0/0", valueOf('/', 0, 0), DIVISION_BY_ZERO);
        DUE.is("1%0", valueOf('%', 1, 0), DIVISION_BY_ZERO);
        DUE.is("0/5", valueOf('/', 0, 5), 0);
    }

    private static void valueAtTheEdgesOfInt() {
        DUE.is("46341*46341", valueOf('*', 46341, 46341), OVERFLOW);
        DUE.is("46340*46340", valueOf('*', 46340, 46340), 2147395600L);
        DUE.is("65536*32768", valueOf('*', 65536, 32768), OVERFLOW);
        DUE.is("65536*-32768", valueOf('*', 65536, -32768), LEAST);
        DUE.is("1e9*1e9", valueOf('*', BILLION, BILLION), OVERFLOW);
        DUE.is("1e9*-1e9", valueOf('*', BILLION, -BILLION), OVERFLOW);
        DUE.is("1e9-1e9", valueOf('-', BILLION, BILLION), 0);
        DisambiguationBench bench = Due.loaded("op+1l;op-1l;expra+b+c;");
        bench.setVariable(0, BILLION);
        bench.setVariable(1, BILLION);
        bench.setVariable(2, 147483647);
        DUE.is("the greatest int", bench.value(0, 0), MOST);
        DUE.is("the greatest int", bench.value(0, 1), MOST);
        bench.setVariable(2, 147483648);
        DUE.is("one more than the greatest int", bench.value(0, 0), OVERFLOW);
        DUE.is("one more than the greatest int", bench.value(0, 1), OVERFLOW);
        bench = Due.loaded("op-1l;expra-b-c;");
        bench.setVariable(0, -BILLION);
        bench.setVariable(1, BILLION);
        bench.setVariable(2, 147483648);
        DUE.is("the least int", bench.value(0, 1), LEAST);
        bench.setVariable(2, 147483649);
        DUE.is("one less than the least int", bench.value(0, 1), OVERFLOW);
    }

    /** Tree 4 of a-b-c?d is ((a-b)-c)?d. */
    private static long leastInt(char symbol, int d) {
        DisambiguationBench bench = Due.loaded("op-1l;op" + symbol + "1l;expra-b-c" + symbol + "d;");
        bench.setVariable(0, -BILLION);
        bench.setVariable(1, BILLION);
        bench.setVariable(2, 147483648);
        bench.setVariable(3, d);
        return bench.value(0, 4);
    }

    private static void valueOfTheLeastInt() {
        DUE.is("least/-1", leastInt('/', -1), OVERFLOW);
        DUE.is("least/1", leastInt('/', 1), LEAST);
        DUE.is("least/2", leastInt('/', 2), -1073741824L);
        DUE.is("least/0", leastInt('/', 0), DIVISION_BY_ZERO);
        DUE.is("least%-1", leastInt('%', -1), 0);
        DUE.is("least%0", leastInt('%', 0), DIVISION_BY_ZERO);
        DUE.is("least*-1", leastInt('*', -1), OVERFLOW);
        DUE.is("least-1", leastInt('-', 1), OVERFLOW);
        DUE.is("least|5", leastInt('|', 5), LEAST + 5L);
        DUE.is("least&-1", leastInt('&', -1), LEAST);
        DUE.is("least<0", leastInt('<', 0), 1);
    }

    private static void valueIsTheFirstFailure() {
        String ops = "op+1l;op*1l;op/1l;op&1l;op|1l;op<1l;op=1l;";
        for (char symbol : "+*/&|<=".toCharArray()) {
            DisambiguationBench bench = Due.loaded(ops + "expra/z" + symbol + "b*c;");
            bench.setVariable(25, 0);
            bench.setVariable(1, BILLION);
            bench.setVariable(2, BILLION);
            DUE.is("(a/0)" + symbol + "(b*c)", bench.value(0, 2), DIVISION_BY_ZERO);
            bench = Due.loaded(ops + "exprb*c" + symbol + "a/z;");
            bench.setVariable(25, 0);
            bench.setVariable(1, BILLION);
            bench.setVariable(2, BILLION);
            DUE.is("(b*c)" + symbol + "(a/0)", bench.value(0, 2), OVERFLOW);
            bench.setVariable(2, 1);
            DUE.is("(b*1)" + symbol + "(a/0)", bench.value(0, 2), DIVISION_BY_ZERO);
        }
        DisambiguationBench bench = Due.loaded("op*1l;op/1l;exprb*c/z;");
        bench.setVariable(25, 0);
        bench.setVariable(1, BILLION);
        bench.setVariable(2, BILLION);
        DUE.is("(b*c)/0", bench.value(0, 1), OVERFLOW);
        DUE.is("b*(c/0)", bench.value(0, 0), DIVISION_BY_ZERO);
    }

    private static void valueOfComparisonsAndOneOperand() {
        DUE.is("3<4", valueOf('<', 3, 4), 1);
        DUE.is("4<4", valueOf('<', 4, 4), 0);
        DUE.is("5<4", valueOf('<', 5, 4), 0);
        DUE.is("-5<4", valueOf('<', -5, 4), 1);
        DUE.is("4=4", valueOf('=', 4, 4), 1);
        DUE.is("3=4", valueOf('=', 3, 4), 0);
        DUE.is("5=4", valueOf('=', 5, 4), 0);
        DisambiguationBench bench = Due.loaded("exprz;");
        DUE.is("value(0, 0) of z", bench.value(0, 0), 26);
        bench.addPriorityFilter(0);
        DUE.is("value(1, 0) of z", bench.value(1, 0), 26);
        DUE.is("value(0, 1) of z", bench.value(0, 1), NO_VALUE);
        bench = Due.loaded("op-1l;expra-a-a;");
        DUE.is("a-(a-a)", bench.value(0, 0), 1);
        DUE.is("(a-a)-a", bench.value(0, 1), -1);
        bench.addAssociativityFilter(0);
        DUE.is("the survivor's value", bench.value(1, 0), -1);
    }

    private static void valueRange() {
        DisambiguationBench bench = new DisambiguationBench();
        int[][] calls = {{1, 0}, {-1, 0}, {0, -1}, {0, 14}, {0, LEAST}, {0, MOST}, {LEAST, 0}, {MOST, 0}, {-1, -1}};
        for (int[] c : calls) {
            DUE.is("value(" + c[0] + ", " + c[1] + ")", bench.value(c[0], c[1]), NO_VALUE);
        }
        bench.addPriorityFilter(0);
        DUE.is("value(1, 1)", bench.value(1, 1), 1);
        DUE.is("value(1, 2)", bench.value(1, 2), NO_VALUE);
        DUE.is("value(2, 0)", bench.value(2, 0), NO_VALUE);
        bench = Due.loaded("op+1n;expra+b+c;");
        bench.addAssociativityFilter(0);
        DUE.is("value(1, 0) of no tree", bench.value(1, 0), NO_VALUE);
    }

    // ---- promise 25

    private static void distinctValues() {
        DisambiguationBench bench = new DisambiguationBench();
        DUE.is("distinctValues(0)", bench.distinctValues(0), 6);
        DUE.is("distinctValues(1)", bench.distinctValues(1), -1);
        DUE.is("distinctValues(-1)", bench.distinctValues(-1), -1);
        DUE.is("distinctValues(LEAST)", bench.distinctValues(LEAST), -1);
        DUE.is("distinctValues(MOST)", bench.distinctValues(MOST), -1);
        bench.addPreferFilter(0, TIMES);
        DUE.is("distinctValues(1) of -4 and 0", bench.distinctValues(1), 2);
        DUE.is("distinctValues(0) of one operand", Due.loaded("expra;").distinctValues(0), 1);
        bench = Due.loaded("op+1n;expra+b+c;");
        DUE.is("distinctValues(0) of equal values", bench.distinctValues(0), 1);
        bench.addAssociativityFilter(0);
        DUE.is("distinctValues(1) of no tree", bench.distinctValues(1), 0);
        failuresAreResults();
    }

    /** b*c/z: b*(c/0) divides by zero, (b*c)/0 overflows first. */
    private static void failuresAreResults() {
        DisambiguationBench bench = Due.loaded("op*1l;op/1l;exprb*c/z;");
        bench.setVariable(25, 0);
        DUE.is("distinctValues(0) of two divisions by zero", bench.distinctValues(0), 1);
        bench.setVariable(1, BILLION);
        bench.setVariable(2, BILLION);
        DUE.is("distinctValues(0) of a division by zero and an overflow", bench.distinctValues(0), 2);
        bench.setVariable(25, 1);
        DUE.is("distinctValues(0) of two overflows", bench.distinctValues(0), 1);
    }

    private static void distinctValuesLimit() {
        DisambiguationBench bench = Due.loaded(THREE_HUNDRED);
        Model model = new Model();
        for (char c : THREE_HUNDRED.toCharArray()) {
            model.append(c);
        }
        model.load();
        bench.addRejectFilter(0, PLUS, TIMES, false);
        model.addFilter(0, 2, PLUS, TIMES, false);
        for (int letter = 0; letter < 8; letter++) {
            bench.setVariable(letter, 11 + letter * letter * letter * 3);
            model.setVariable(letter, 11 + letter * letter * letter * 3);
        }
        DUE.is("treeCount(1)", bench.treeCount(1), 300);
        DUE.is("distinctValues(1) of 300 trees", bench.distinctValues(1), model.distinctValues(1));
        DUE.holds("there are many results", bench.distinctValues(1) > 100);
        DUE.is("distinctValues(0) of 429 trees", bench.distinctValues(0), -3);
        DUE.is("distinctValues(2)", bench.distinctValues(2), -1);
        bench = Due.loaded(ONE_MORE);
        bench.addAssociativityFilter(0);
        DUE.is("treeCount(1)", bench.treeCount(1), 301);
        DUE.is("distinctValues(1) of 301 trees", bench.distinctValues(1), -3);
    }

    private static void mostDistinctValues() {
        DisambiguationBench bench = Due.loaded(ALL_DIFFERENT);
        bench.addRejectFilter(0, TIMES, TIMES, true);
        bench.addRejectFilter(1, OR, OR, true);
        for (int letter = 0; letter < ALL_DIFFERENT_LETTERS.length; letter++) {
            bench.setVariable(letter, ALL_DIFFERENT_LETTERS[letter]);
        }
        DUE.is("treeCount(2)", bench.treeCount(2), 300);
        DUE.is("distinctValues(2) of 300 trees with as many values", bench.distinctValues(2), 300);
        DUE.is("distinctValues(1) of more trees", bench.distinctValues(1), -3);
        Set<Long> values = new HashSet<>();
        for (int rank = 0; rank < 300; rank++) {
            values.add(bench.value(2, rank));
        }
        DUE.is("different answers of value(2, ..)", values.size(), 300);
    }
}
