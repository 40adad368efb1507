/** Promise 8: scan, with the table of binary functions. */
final class Promise08ScanTest {
    private static final int MAX = Integer.MAX_VALUE;
    private static final int MIN = Integer.MIN_VALUE;

    public static void main(String[] args) {
        table();
        order();
        shape();
        inner();
        Check.end();
    }

    private static void table() {
        values(StreamFusion.B_ADD, 10, 1, 11, 13, 16, 20);
        values(StreamFusion.B_ADD, MAX, 1, MIN, MIN + 2, MIN + 5, MIN + 9);
        values(StreamFusion.B_SUB, 10, 1, 9, 7, 4, 0);
        values(StreamFusion.B_SUB, MIN, 1, MAX, MAX - 2, MAX - 5, MAX - 9);
        values(StreamFusion.B_MUL, 5, 1, 5, 10, 30, 120);
        values(StreamFusion.B_MUL, MIN, 1, MIN, 0, 0, 0);
        values(StreamFusion.B_MIN, 3, 1, 1, 1, 1, 1);
        values(StreamFusion.B_MIN, -3, 1, -3, -3, -3, -3);
        values(StreamFusion.B_MAX, 3, 1, 3, 3, 3, 4);
        values(StreamFusion.B_MAX, -3, 1, 1, 2, 3, 4);
        values(StreamFusion.B_FST, 9, 1, 9, 9, 9, 9);
        values(StreamFusion.B_SND, 9, 1, 1, 2, 3, 4);
    }

    /** scan(op, init) of range(start, 4). */
    private static void values(int op, int init, int start, int... want) {
        StreamFusion x = new StreamFusion(256);
        String call = "scan(" + op + ", " + init + ") of range(" + start + ", 4)";
        x.range(start, 4);
        Check.due(call, x.scan(op, init), StreamFusion.OK);
        Check.stack(call, x, "2/0/c");
        Check.list(call, x, want);
        Check.cost(call, x, 8);
    }

    private static void order() {
        StreamFusion x = new StreamFusion(256);
        String fresh = Check.state(x);
        for (int op : new int[] {MIN, -1, 7, 8, MAX}) {
            Check.refused("scan(" + op + ", 0) on nothing", x.scan(op, 0), StreamFusion.BAD_OP, x, fresh);
        }
        for (int op = 0; op <= 6; op++) {
            Check.refused("scan(" + op + ", 0) on nothing", x.scan(op, 0), StreamFusion.UNDERFLOW, x, fresh);
        }
        Check.fillUp(x, 0);
        String full = Check.state(x);
        Check.refused("scan(7, 0) when full", x.scan(7, 0), StreamFusion.BAD_OP, x, full);
        Check.refused("scan(6, 0) when full", x.scan(6, 0), StreamFusion.FULL, x, full);
    }

    private static void shape() {
        StreamFusion x = new StreamFusion(256);
        x.inner(0, 2);
        x.range(0, 2);
        x.inner(0, 2);
        Check.due("scan of an open fragment", x.scan(StreamFusion.B_ADD, 1), StreamFusion.OK);
        Check.stack("scan of an open fragment", x, "1/0/o", "1/0/c", "2/0/o");
        x.concatMap();
        Check.due("scan of a concatMap", x.scan(StreamFusion.B_ADD, 1), StreamFusion.OK);
        Check.stack("scan of a concatMap", x, "1/0/o", "5/1/c");
    }

    /** In an inner part each list begins with init again; the list of a concatMap is scanned as one. */
    private static void inner() {
        StreamFusion x = new StreamFusion(256);
        x.range(1, 3);
        x.inner(0, 6);
        x.scan(StreamFusion.B_ADD, 100);
        x.concatMap();
        Check.list("scan in an inner part", x, 101, 102, 105, 103, 107, 112);
        x.scan(StreamFusion.B_SUB, 0);
        Check.list("scan of a concatMap", x, -101, -203, -308, -411, -518, -630);

        StreamFusion e = new StreamFusion(256);
        e.range(1, 0);
        e.scan(StreamFusion.B_ADD, 100);
        Check.list("scan of nothing", e);
    }
}
