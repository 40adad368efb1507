/** 'Function tables': every entry of the three tables, by hand where the document names a case, and over many pairs. */
final class FunctionTablesTest {
    private static final int MAX = Integer.MAX_VALUE;
    private static final int MIN = Integer.MIN_VALUE;
    private static final int[] EDGES = {
        MIN, MIN + 1, MIN / 2, -65536, -46341, -7, -3, -2, -1, 0, 1, 2, 3, 7, 46340, 46341, 65536, MAX / 2, MAX - 1, MAX
    };

    public static void main(String[] args) {
        divisionByZero();
        divisionOfTheLeastByMinusOne();
        divisionTruncates();
        remainderHasTheSignOfX();
        negAndSqIgnoreK();
        wrapping();
        lesserAndGreater();
        parityOfNegatives();
        predicatesAtTheBound();
        divisibility();
        orderOfBinaryArguments();
        everyUnaryEntry();
        everyPredicate();
        everyBinaryEntry();
        Check.end();
    }

    private static void divisionByZero() {
        for (int x : EDGES) {
            unary(StreamFusion.F_DIV, x, 0, 0);
            unary(StreamFusion.F_MOD, x, 0, 0);
            predicate(StreamFusion.P_DIVBY, x, 0, false);
        }
    }

    private static void divisionOfTheLeastByMinusOne() {
        unary(StreamFusion.F_DIV, MIN, -1, MIN);
        unary(StreamFusion.F_MOD, MIN, -1, 0);
        predicate(StreamFusion.P_DIVBY, MIN, -1, true);
        unary(StreamFusion.F_DIV, MIN + 1, -1, MAX);
        unary(StreamFusion.F_MOD, MIN + 1, -1, 0);
        unary(StreamFusion.F_DIV, MAX, -1, MIN + 1);
        unary(StreamFusion.F_DIV, MIN, 1, MIN);
        unary(StreamFusion.F_DIV, MIN, MIN, 1);
        unary(StreamFusion.F_DIV, MAX, MIN, 0);
        unary(StreamFusion.F_MOD, MAX, MIN, MAX);
        unary(StreamFusion.F_MOD, MIN, MIN, 0);
        unary(StreamFusion.F_MOD, MIN, MAX, -1);
    }

    private static void divisionTruncates() {
        unary(StreamFusion.F_DIV, 7, 2, 3);
        unary(StreamFusion.F_DIV, -7, 2, -3);
        unary(StreamFusion.F_DIV, 7, -2, -3);
        unary(StreamFusion.F_DIV, -7, -2, 3);
        unary(StreamFusion.F_DIV, 1, 2, 0);
        unary(StreamFusion.F_DIV, -1, 2, 0);
        unary(StreamFusion.F_DIV, 6, -2, -3);
    }

    private static void remainderHasTheSignOfX() {
        unary(StreamFusion.F_MOD, 7, 3, 1);
        unary(StreamFusion.F_MOD, -7, 3, -1);
        unary(StreamFusion.F_MOD, 7, -3, 1);
        unary(StreamFusion.F_MOD, -7, -3, -1);
        unary(StreamFusion.F_MOD, -6, 3, 0);
        unary(StreamFusion.F_MOD, 2, 3, 2);
        unary(StreamFusion.F_MOD, -2, 3, -2);
    }

    private static void negAndSqIgnoreK() {
        for (int k : EDGES) {
            unary(StreamFusion.F_NEG, 5, k, -5);
            unary(StreamFusion.F_NEG, -5, k, 5);
            unary(StreamFusion.F_NEG, 0, k, 0);
            unary(StreamFusion.F_NEG, MIN, k, MIN);
            unary(StreamFusion.F_NEG, MAX, k, MIN + 1);
            unary(StreamFusion.F_SQ, 5, k, 25);
            unary(StreamFusion.F_SQ, -5, k, 25);
            unary(StreamFusion.F_SQ, 0, k, 0);
            unary(StreamFusion.F_SQ, 65536, k, 0);
            unary(StreamFusion.F_SQ, MIN, k, 0);
            unary(StreamFusion.F_SQ, MAX, k, 1);
        }
    }

    private static void wrapping() {
        unary(StreamFusion.F_ADD, MAX, 1, MIN);
        unary(StreamFusion.F_ADD, MIN, -1, MAX);
        unary(StreamFusion.F_SUB, MIN, 1, MAX);
        unary(StreamFusion.F_SUB, 0, MIN, MIN);
        unary(StreamFusion.F_SUB, -1, MIN, MAX);
        unary(StreamFusion.F_MUL, MAX, 2, -2);
        unary(StreamFusion.F_MUL, MIN, -1, MIN);
        unary(StreamFusion.F_MUL, 65536, 65536, 0);
        binary(StreamFusion.B_ADD, MAX, 1, MIN);
        binary(StreamFusion.B_SUB, MIN, 1, MAX);
        binary(StreamFusion.B_MUL, MIN, -1, MIN);
        binary(StreamFusion.B_MUL, 46341, 46341, -2147479015);
    }

    private static void lesserAndGreater() {
        unary(StreamFusion.F_MIN, 3, 4, 3);
        unary(StreamFusion.F_MIN, 4, 3, 3);
        unary(StreamFusion.F_MIN, 3, 3, 3);
        unary(StreamFusion.F_MAX, 3, 4, 4);
        unary(StreamFusion.F_MAX, 4, 3, 4);
        unary(StreamFusion.F_MAX, 3, 3, 3);
        // A difference would wrap here.
        unary(StreamFusion.F_MIN, MIN, MAX, MIN);
        unary(StreamFusion.F_MIN, MAX, MIN, MIN);
        unary(StreamFusion.F_MAX, MIN, MAX, MAX);
        unary(StreamFusion.F_MAX, MAX, MIN, MAX);
        binary(StreamFusion.B_MIN, MIN, MAX, MIN);
        binary(StreamFusion.B_MIN, MAX, MIN, MIN);
        binary(StreamFusion.B_MAX, MIN, MAX, MAX);
        binary(StreamFusion.B_MAX, MAX, MIN, MAX);
    }

    private static void parityOfNegatives() {
        for (int k : new int[] {MIN, -1, 0, 1, 2, MAX}) {
            predicate(StreamFusion.P_ODD, -1, k, true);
            predicate(StreamFusion.P_ODD, -2, k, false);
            predicate(StreamFusion.P_ODD, 0, k, false);
            predicate(StreamFusion.P_ODD, 1, k, true);
            predicate(StreamFusion.P_ODD, MIN, k, false);
            predicate(StreamFusion.P_ODD, MAX, k, true);
            predicate(StreamFusion.P_EVEN, -1, k, false);
            predicate(StreamFusion.P_EVEN, -2, k, true);
            predicate(StreamFusion.P_EVEN, 0, k, true);
            predicate(StreamFusion.P_EVEN, 1, k, false);
            predicate(StreamFusion.P_EVEN, MIN, k, true);
            predicate(StreamFusion.P_EVEN, MAX, k, false);
        }
    }

    private static void predicatesAtTheBound() {
        for (int k : new int[] {MIN + 1, -1, 0, 1, MAX - 1}) {
            around(StreamFusion.P_LT, k, true, false, false);
            around(StreamFusion.P_GT, k, false, false, true);
            around(StreamFusion.P_EQ, k, false, true, false);
            around(StreamFusion.P_NE, k, true, false, true);
        }
        predicate(StreamFusion.P_LT, MIN, MIN, false);
        predicate(StreamFusion.P_LT, MIN, MAX, true);
        predicate(StreamFusion.P_LT, MAX, MIN, false);
        predicate(StreamFusion.P_GT, MAX, MAX, false);
        predicate(StreamFusion.P_GT, MAX, MIN, true);
        predicate(StreamFusion.P_GT, MIN, MAX, false);
        predicate(StreamFusion.P_EQ, MIN, MAX, false);
        predicate(StreamFusion.P_NE, MIN, MAX, true);
    }

    private static void around(int op, int k, boolean less, boolean equal, boolean greater) {
        predicate(op, k - 1, k, less);
        predicate(op, k, k, equal);
        predicate(op, k + 1, k, greater);
    }

    private static void divisibility() {
        predicate(StreamFusion.P_DIVBY, 0, 5, true);
        predicate(StreamFusion.P_DIVBY, 10, 5, true);
        predicate(StreamFusion.P_DIVBY, -10, 5, true);
        predicate(StreamFusion.P_DIVBY, 10, -5, true);
        predicate(StreamFusion.P_DIVBY, 9, 5, false);
        predicate(StreamFusion.P_DIVBY, -9, 5, false);
        predicate(StreamFusion.P_DIVBY, 5, 10, false);
        predicate(StreamFusion.P_DIVBY, 0, MIN, true);
        predicate(StreamFusion.P_DIVBY, MIN, MIN, true);
        predicate(StreamFusion.P_DIVBY, MAX, MIN, false);
        predicate(StreamFusion.P_DIVBY, MIN, 1, true);
    }

    private static void orderOfBinaryArguments() {
        binary(StreamFusion.B_SUB, 3, 10, -7);
        binary(StreamFusion.B_SUB, 10, 3, 7);
        binary(StreamFusion.B_FST, 3, 10, 3);
        binary(StreamFusion.B_SND, 3, 10, 10);
        binary(StreamFusion.B_FST, 10, 3, 10);
        binary(StreamFusion.B_SND, 10, 3, 3);
    }

    private static void everyUnaryEntry() {
        for (int op = StreamFusion.F_ADD; op <= StreamFusion.F_SQ; op++) {
            for (int x : EDGES) {
                for (int k : EDGES) {
                    unary(op, x, k, Model.f(op, x, k));
                }
            }
        }
    }

    private static void everyPredicate() {
        for (int op = StreamFusion.P_EVEN; op <= StreamFusion.P_DIVBY; op++) {
            for (int x : EDGES) {
                for (int k : EDGES) {
                    predicate(op, x, k, Model.p(op, x, k));
                }
            }
        }
    }

    private static void everyBinaryEntry() {
        for (int op = StreamFusion.B_ADD; op <= StreamFusion.B_SND; op++) {
            for (int a : EDGES) {
                for (int b : EDGES) {
                    binary(op, a, b, Model.g(op, a, b));
                }
            }
        }
    }

    private static void unary(int op, int x, int k, int want) {
        StreamFusion s = new StreamFusion(8);
        s.range(x, 1);
        s.map(op, k);
        Check.both("map(" + op + ", " + k + ") of " + x, s, 2, want);
    }

    private static void predicate(int op, int x, int k, boolean want) {
        StreamFusion s = new StreamFusion(8);
        s.range(x, 1);
        s.filter(op, k);
        String what = "filter(" + op + ", " + k + ") of " + x;
        if (want) {
            Check.both(what, s, 2, x);
        } else {
            Check.both(what, s, 1);
        }
    }

    /** The same table serves scan, whose a is init, and zip, whose a is of the lower fragment. */
    private static void binary(int op, int a, int b, int want) {
        StreamFusion s = new StreamFusion(8);
        s.range(b, 1);
        s.scan(op, a);
        Check.both("scan(" + op + ", " + a + ") of " + b, s, 2, want);
        s.clear();
        s.range(a, 1);
        s.range(b, 1);
        s.zip(op);
        Check.both("zip(" + op + ") of " + a + " and " + b, s, 3, want);
    }
}
