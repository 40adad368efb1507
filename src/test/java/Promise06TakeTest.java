/** Promise 6: take. */
final class Promise06TakeTest {
    private static final int MAX = Integer.MAX_VALUE;
    private static final int MIN = Integer.MIN_VALUE;

    public static void main(String[] args) {
        values(0);
        values(-1);
        values(MIN);
        values(1, 5);
        values(3, 5, 6, 7);
        values(4, 5, 6, 7, 8);
        values(5, 5, 6, 7, 8);
        values(MAX, 5, 6, 7, 8);
        order();
        shape();
        inner();
        Check.end();
    }

    /** take(n) of range(5, 4); the cost counts the whole child. */
    private static void values(int n, int... want) {
        StreamFusion x = new StreamFusion(256);
        String call = "take(" + n + ") of range(5, 4)";
        x.range(5, 4);
        Check.due(call, x.take(n), StreamFusion.OK);
        Check.stack(call, x, "2/0/c");
        Check.list(call, x, want);
        Check.cost(call, x, 4 + want.length);
    }

    private static void order() {
        StreamFusion x = new StreamFusion(256);
        String fresh = Check.state(x);
        Check.refused("take(1) on nothing", x.take(1), StreamFusion.UNDERFLOW, x, fresh);
        Check.refused("take(-1) on nothing", x.take(-1), StreamFusion.UNDERFLOW, x, fresh);
        Check.fillUp(x, 0);
        String full = Check.state(x);
        Check.refused("take(1) when full", x.take(1), StreamFusion.FULL, x, full);
        Check.refused("take(-1) when full", x.take(-1), StreamFusion.FULL, x, full);
    }

    private static void shape() {
        StreamFusion x = new StreamFusion(256);
        x.inner(0, 2);
        x.range(0, 2);
        x.inner(0, 2);
        Check.due("take of an open fragment", x.take(1), StreamFusion.OK);
        Check.stack("take of an open fragment", x, "1/0/o", "1/0/c", "2/0/o");
        x.concatMap();
        Check.due("take of a concatMap", x.take(1), StreamFusion.OK);
        Check.stack("take of a concatMap", x, "1/0/o", "5/1/c");
    }

    /** Each list of an inner part is cut for itself. */
    private static void inner() {
        StreamFusion x = new StreamFusion(256);
        x.range(1, 4);
        x.inner(10, 6);
        x.take(2);
        x.concatMap();
        Check.list("take in an inner part", x, 11, 12, 13, 13, 14, 14, 15);
        Check.cost("take in an inner part", x, 4 + 10 + 7 + 7);
        x.take(3);
        Check.list("take of a concatMap", x, 11, 12, 13);
        Check.cost("take of a concatMap", x, 31);
    }
}
