/** Promise 4: map, with the table of unary functions. */
final class Promise04MapTest {
    private static final int MAX = Integer.MAX_VALUE;
    private static final int MIN = Integer.MIN_VALUE;

    public static void main(String[] args) {
        table();
        TransformerChecks.opsInOrder("map", 8, (x, op) -> x.map(op, 0));
        TransformerChecks.shape("map", x -> x.map(0, 1));
        TransformerChecks.below("map", x -> x.map(0, 1));
        Check.end();
    }

    private static void table() {
        values(StreamFusion.F_ADD, 10, 1, 11, 12, 13);
        values(StreamFusion.F_ADD, MAX, 1, MIN, MIN + 1, MIN + 2);
        values(StreamFusion.F_SUB, 10, 1, -9, -8, -7);
        values(StreamFusion.F_SUB, MIN, 0, MIN, MIN + 1, MIN + 2);
        values(StreamFusion.F_MUL, -3, 1, -3, -6, -9);
        values(StreamFusion.F_MUL, MIN, 1, MIN, 0, MIN);
        values(StreamFusion.F_DIV, 2, -3, -1, -1, 0);
        values(StreamFusion.F_DIV, -2, 3, -1, -2, -2);
        values(StreamFusion.F_DIV, 0, 3, 0, 0, 0);
        values(StreamFusion.F_DIV, -1, MIN, MIN, MAX, MAX - 1);
        values(StreamFusion.F_MOD, 3, -4, -1, 0, -2);
        values(StreamFusion.F_MOD, -3, 4, 1, 2, 0);
        values(StreamFusion.F_MOD, 0, 4, 0, 0, 0);
        values(StreamFusion.F_MOD, -1, MIN, 0, 0, 0);
        values(StreamFusion.F_MIN, 2, 1, 1, 2, 2);
        values(StreamFusion.F_MIN, MIN, MAX - 2, MIN, MIN, MIN);
        values(StreamFusion.F_MAX, 2, 1, 2, 2, 3);
        values(StreamFusion.F_MAX, MAX, MIN, MAX, MAX, MAX);
        values(StreamFusion.F_NEG, 99, -1, 1, 0, -1);
        values(StreamFusion.F_NEG, 0, MIN, MIN, MAX, MAX - 1);
        values(StreamFusion.F_SQ, 99, -1, 1, 0, 1);
        values(StreamFusion.F_SQ, 0, 46340, 2147395600, -2147479015, -2147386332);
    }

    /** map(op, k) of range(start, 3). */
    private static void values(int op, int k, int start, int... want) {
        StreamFusion x = new StreamFusion(256);
        String call = "map(" + op + ", " + k + ") of range(" + start + ", 3)";
        x.range(start, 3);
        Check.due(call, x.map(op, k), StreamFusion.OK);
        Check.stack(call, x, "2/0/c");
        Check.list(call, x, want);
        Check.cost(call, x, 6);
    }
}
