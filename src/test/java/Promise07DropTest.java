/** Promise 7: drop. */
final class Promise07DropTest {
    private static final int MAX = Integer.MAX_VALUE;
    private static final int MIN = Integer.MIN_VALUE;

    public static void main(String[] args) {
        values(0, 5, 6, 7, 8);
        values(-1, 5, 6, 7, 8);
        values(MIN, 5, 6, 7, 8);
        values(1, 6, 7, 8);
        values(3, 8);
        values(4);
        values(5);
        values(MAX);
        order();
        shape();
        inner();
        Check.end();
    }

    /** drop(n) of range(5, 4); the cost counts the whole child. */
    private static void values(int n, int... want) {
        StreamFusion x = new StreamFusion(256);
        String call = "drop(" + n + ") of range(5, 4)";
        x.range(5, 4);
        Check.due(call, x.drop(n), StreamFusion.OK);
        Check.stack(call, x, "2/0/c");
        Check.list(call, x, want);
        Check.cost(call, x, 4 + want.length);
    }

    private static void order() {
        StreamFusion x = new StreamFusion(256);
        String fresh = Check.state(x);
        Check.refused("drop(1) on nothing", x.drop(1), StreamFusion.UNDERFLOW, x, fresh);
        Check.refused("drop(-1) on nothing", x.drop(-1), StreamFusion.UNDERFLOW, x, fresh);
        Check.fillUp(x, 0);
        String full = Check.state(x);
        Check.refused("drop(1) when full", x.drop(1), StreamFusion.FULL, x, full);
        Check.refused("drop(-1) when full", x.drop(-1), StreamFusion.FULL, x, full);
    }

    private static void shape() {
        StreamFusion x = new StreamFusion(256);
        x.inner(0, 2);
        x.range(0, 2);
        x.inner(0, 2);
        Check.due("drop of an open fragment", x.drop(1), StreamFusion.OK);
        Check.stack("drop of an open fragment", x, "1/0/o", "1/0/c", "2/0/o");
        x.concatMap();
        Check.due("drop of a concatMap", x.drop(1), StreamFusion.OK);
        Check.stack("drop of a concatMap", x, "1/0/o", "5/1/c");
    }

    /** Each list of an inner part is cut for itself. */
    private static void inner() {
        StreamFusion x = new StreamFusion(256);
        x.range(1, 4);
        x.inner(10, 6);
        x.drop(2);
        x.concatMap();
        Check.list("drop in an inner part", x, 15, 16, 17);
        Check.cost("drop in an inner part", x, 4 + 10 + 3 + 3);
        x.drop(1);
        Check.list("drop of a concatMap", x, 16, 17);
        Check.cost("drop of a concatMap", x, 22);
    }
}
