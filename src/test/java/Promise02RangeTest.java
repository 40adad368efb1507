/** Promise 2: range. */
final class Promise02RangeTest {
    private static final int MAX = Integer.MAX_VALUE;
    private static final int MIN = Integer.MIN_VALUE;

    public static void main(String[] args) {
        values(5, 3, 5, 6, 7);
        values(-2, 4, -2, -1, 0, 1);
        values(5, 1, 5);
        values(5, 0);
        values(5, -1);
        values(5, MIN);
        values(5, 6, 5, 6, 7, 8, 9, 10);
        values(5, 7, 5, 6, 7, 8, 9, 10);
        values(5, MAX, 5, 6, 7, 8, 9, 10);
        values(MAX, 3, MAX, MIN, MIN + 1);
        values(MAX - 1, 2, MAX - 1, MAX);
        values(MIN, 2, MIN, MIN + 1);
        pushes();
        Check.end();
    }

    private static void values(int start, int len, int... want) {
        StreamFusion x = new StreamFusion(256);
        String call = "range(" + start + ", " + len + ")";
        Check.due(call, x.range(start, len), StreamFusion.OK);
        Check.stack(call, x, "1/0/c");
        Check.list(call, x, want);
        Check.cost(call, x, want.length);
    }

    private static void pushes() {
        StreamFusion x = new StreamFusion(256);
        x.inner(1, 1);
        x.map(StreamFusion.F_NEG, 0);
        x.range(3, 3);
        x.take(1);
        x.take(1);
        Check.due("range", x.range(9, 9), StreamFusion.OK);
        Check.stack("range on two fragments", x, "2/0/o", "3/0/c", "1/0/c");
        Check.fillUp(x, 6);
        Check.refused("range as node 17", x, StreamFusion.FULL, () -> x.range(0, 0));
        Check.refused("range as node 17", x, StreamFusion.FULL, () -> x.range(0, -1));
        x.clear();
        Check.due("range after clear", x.range(4, 2), StreamFusion.OK);
        Check.list("range after clear", x, 4, 5);
    }
}
