/** Promise 8: scan, with the table of binary functions. */
final class Promise08ScanTest {
    private static final int MAX = Integer.MAX_VALUE;
    private static final int MIN = Integer.MIN_VALUE;

    public static void main(String[] args) {
        table();
        TransformerChecks.opsInOrder("scan", 6, (x, op) -> x.scan(op, 0));
        TransformerChecks.shape("scan", x -> x.scan(0, 1));
        TransformerChecks.below("scan", x -> x.scan(0, 1));
        inner();
        Check.end();
    }

    private static void table() {
        values(StreamFusion.B_ADD, 10, 1, 11, 13, 16, 20);
        values(StreamFusion.B_ADD, MAX, 1, MIN, MIN + 2, MIN + 5, MIN + 9);
        values(StreamFusion.B_SUB, 10, 1, 9, 7, 4, 0);
        values(StreamFusion.B_SUB, MIN, 1, MAX, MAX - 2, MAX - 5, MAX - 9);
        values(StreamFusion.B_MUL, 5, 1, 5, 10, 30, 120);
        values(StreamFusion.B_MUL, MIN, 1, MIN, 0, 0, 0);
        values(StreamFusion.B_MIN, 3, 1, 1, 1, 1, 1);
        values(StreamFusion.B_MIN, -3, 1, -3, -3, -3, -3);
        values(StreamFusion.B_MAX, 3, 1, 3, 3, 3, 4);
        values(StreamFusion.B_MAX, -3, 1, 1, 2, 3, 4);
        values(StreamFusion.B_FST, 9, 1, 9, 9, 9, 9);
        values(StreamFusion.B_SND, 9, 1, 1, 2, 3, 4);
    }

    /** scan(op, init) of range(start, 4). */
    private static void values(int op, int init, int start, int... want) {
        StreamFusion x = new StreamFusion(256);
        String call = "scan(" + op + ", " + init + ") of range(" + start + ", 4)";
        x.range(start, 4);
        Check.due(call, x.scan(op, init), StreamFusion.OK);
        Check.stack(call, x, "2/0/c");
        Check.list(call, x, want);
        Check.cost(call, x, 8);
    }

    /** In an inner part each list begins with init again; the list of a concatMap is scanned as one. */
    private static void inner() {
        StreamFusion x = new StreamFusion(256);
        x.range(1, 3);
        x.inner(0, 6);
        x.scan(StreamFusion.B_ADD, 100);
        x.concatMap();
        Check.list("scan in an inner part", x, 101, 102, 105, 103, 107, 112);
        x.scan(StreamFusion.B_SUB, 0);
        Check.list("scan of a concatMap", x, -101, -203, -308, -411, -518, -630);
    }
}
