/** Promise 6: take. */
final class Promise06TakeTest {
    private static final int MAX = Integer.MAX_VALUE;
    private static final int MIN = Integer.MIN_VALUE;

    public static void main(String[] args) {
        values(0);
        values(-1);
        values(MIN);
        values(1, 5);
        values(3, 5, 6, 7);
        values(4, 5, 6, 7, 8);
        values(5, 5, 6, 7, 8);
        values(MAX, 5, 6, 7, 8);
        TransformerChecks.refusalsInOrder("take(1)", x -> x.take(1));
        TransformerChecks.refusalsInOrder("take(-1)", x -> x.take(-1));
        TransformerChecks.shape("take", x -> x.take(1));
        TransformerChecks.below("take", x -> x.take(3));
        inner();
        Check.end();
    }

    /** take(n) of range(5, 4); the cost counts the whole child. */
    private static void values(int n, int... want) {
        StreamFusion x = new StreamFusion(256);
        String call = "take(" + n + ") of range(5, 4)";
        x.range(5, 4);
        Check.due(call, x.take(n), StreamFusion.OK);
        Check.stack(call, x, "2/0/c");
        Check.list(call, x, want);
        Check.cost(call, x, 4 + want.length);
    }

    /** Each list of an inner part is cut for itself. */
    private static void inner() {
        StreamFusion x = new StreamFusion(256);
        x.range(1, 4);
        x.inner(10, 6);
        x.take(2);
        x.concatMap();
        Check.list("take in an inner part", x, 11, 12, 13, 13, 14, 14, 15);
        Check.cost("take in an inner part", x, 4 + 10 + 7 + 7);
        x.take(3);
        Check.list("take of a concatMap", x, 11, 12, 13);
        Check.cost("take of a concatMap", x, 31);

        StreamFusion y = new StreamFusion(256);
        y.range(3, 4);
        y.inner(10, 3);
        y.take(2);
        y.concatMap();
        Check.list("take of short lists behind a long one", y, 13, 14, 15, 16, 17);
        Check.cost("take of short lists behind a long one", y, 4 + 6 + 5 + 5);
    }
}
