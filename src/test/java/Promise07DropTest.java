/** Promise 7: drop. */
final class Promise07DropTest {
    private static final int MAX = Integer.MAX_VALUE;
    private static final int MIN = Integer.MIN_VALUE;

    public static void main(String[] args) {
        values(0, 5, 6, 7, 8);
        values(-1, 5, 6, 7, 8);
        values(MIN, 5, 6, 7, 8);
        values(1, 6, 7, 8);
        values(3, 8);
        values(4);
        values(5);
        values(MAX);
        TransformerChecks.refusalsInOrder("drop(1)", x -> x.drop(1));
        TransformerChecks.refusalsInOrder("drop(-1)", x -> x.drop(-1));
        TransformerChecks.shape("drop", x -> x.drop(1));
        TransformerChecks.below("drop", x -> x.drop(3));
        inner();
        Check.end();
    }

    /** drop(n) of range(5, 4); the cost counts the whole child. */
    private static void values(int n, int... want) {
        StreamFusion x = new StreamFusion(256);
        String call = "drop(" + n + ") of range(5, 4)";
        x.range(5, 4);
        Check.due(call, x.drop(n), StreamFusion.OK);
        Check.stack(call, x, "2/0/c");
        Check.list(call, x, want);
        Check.cost(call, x, 4 + want.length);
    }

    /** Each list of an inner part is cut for itself. */
    private static void inner() {
        StreamFusion x = new StreamFusion(256);
        x.range(1, 4);
        x.inner(10, 6);
        x.drop(2);
        x.concatMap();
        Check.list("drop in an inner part", x, 15, 16, 17);
        Check.cost("drop in an inner part", x, 4 + 10 + 3 + 3);
        x.drop(1);
        Check.list("drop of a concatMap", x, 16, 17);
        Check.cost("drop of a concatMap", x, 22);

        StreamFusion y = new StreamFusion(256);
        y.range(3, 4);
        y.inner(10, 3);
        y.drop(2);
        y.concatMap();
        Check.list("drop of short lists behind a long one", y, 15);
        Check.cost("drop of short lists behind a long one", y, 4 + 6 + 1 + 1);
    }
}
