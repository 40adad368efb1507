/** Promise 5: filter, with the table of predicates. */
final class Promise05FilterTest {
    private static final int MAX = Integer.MAX_VALUE;
    private static final int MIN = Integer.MIN_VALUE;

    public static void main(String[] args) {
        table();
        TransformerChecks.opsInOrder("filter", 6, (x, op) -> x.filter(op, 0));
        TransformerChecks.shape("filter", x -> x.filter(0, 1));
        TransformerChecks.below("filter", x -> x.filter(0, 1));
        inner();
        Check.end();
    }

    private static void table() {
        values(StreamFusion.P_EVEN, 9, -3, -2, 0, 2);
        values(StreamFusion.P_EVEN, 0, MIN, MIN, MIN + 2, MIN + 4);
        values(StreamFusion.P_ODD, 9, -3, -3, -1, 1);
        values(StreamFusion.P_ODD, 0, MAX, MAX, MIN + 1, MIN + 3);
        values(StreamFusion.P_LT, 0, -3, -3, -2, -1);
        values(StreamFusion.P_LT, MIN, MAX);
        values(StreamFusion.P_LT, 0, MAX, MIN, MIN + 1, MIN + 2, MIN + 3, MIN + 4);
        values(StreamFusion.P_GT, 0, -3, 1, 2);
        values(StreamFusion.P_GT, MAX, -3);
        values(StreamFusion.P_GT, MIN, MAX, MAX, MIN + 1, MIN + 2, MIN + 3, MIN + 4);
        values(StreamFusion.P_EQ, 2, -3, 2);
        values(StreamFusion.P_EQ, 3, -3);
        values(StreamFusion.P_NE, 2, -3, -3, -2, -1, 0, 1);
        values(StreamFusion.P_NE, 3, -3, -3, -2, -1, 0, 1, 2);
        values(StreamFusion.P_DIVBY, 0, -3);
        values(StreamFusion.P_DIVBY, 3, -3, -3, 0);
        values(StreamFusion.P_DIVBY, -2, -3, -2, 0, 2);
        values(StreamFusion.P_DIVBY, -1, MIN, MIN, MIN + 1, MIN + 2, MIN + 3, MIN + 4, MIN + 5);
        values(StreamFusion.P_DIVBY, MIN, MAX, MIN);
    }

    /** filter(op, k) of range(start, 6). */
    private static void values(int op, int k, int start, int... want) {
        StreamFusion x = new StreamFusion(256);
        String call = "filter(" + op + ", " + k + ") of range(" + start + ", 6)";
        x.range(start, 6);
        Check.due(call, x.filter(op, k), StreamFusion.OK);
        Check.stack(call, x, "2/0/c");
        Check.list(call, x, want);
        Check.cost(call, x, 6 + want.length);
    }

    private static void inner() {
        StreamFusion y = new StreamFusion(256);
        y.range(1, 4);
        y.inner(0, 4);
        y.filter(StreamFusion.P_ODD, 0);
        y.concatMap();
        Check.list("filter in an inner part", y, 1, 3, 3, 5, 5, 7);
        y.filter(StreamFusion.P_NE, 3);
        Check.list("filter of a concatMap", y, 1, 5, 5, 7);
    }
}
