/** Promise 3: inner. */
final class Promise03InnerTest {
    private static final int MAX = Integer.MAX_VALUE;
    private static final int MIN = Integer.MIN_VALUE;

    public static void main(String[] args) {
        values(3, 10, 6, 13, 14, 15);
        values(6, 0, 6, 6, 7, 8, 9, 10, 11);
        values(7, 0, 6);
        values(8, 0, 6, 8);
        values(0, 5, 6);
        values(3, 0, 0);
        values(3, 0, -1);
        values(3, 0, MIN);
        values(3, 0, 1, 3);
        values(2, 0, 1);
        values(13, 0, 7, 13, 14, 15, 16, 17, 18);
        values(7, 0, 7);
        values(6, 0, MAX, 6, 7, 8, 9, 10, 11);
        values(-1, 0, 6, -1, 0, 1, 2, 3, 4);
        values(-1, 0, 2, -1, 0);
        values(-7, 0, 6);
        values(-8, 0, 4, -8, -7);
        values(MAX, 0, 1, MAX);
        values(MAX, 0, 2, MAX);
        values(MAX, 1, 4, MIN, MIN + 1);
        values(MAX, 0, 4, MAX, MIN);
        values(MIN, -1, 6, MAX, MIN, MIN + 1, MIN + 2, MIN + 3);
        values(5, MAX, 6, MIN + 4, MIN + 5, MIN + 6, MIN + 7, MIN + 8);
        pushes();
        Check.end();
    }

    /** The list of inner(off, cap) given x. */
    private static void values(int x, int off, int cap, int... want) {
        StreamFusion s = new StreamFusion(256);
        String call = "inner(" + off + ", " + cap + ") given " + x;
        s.range(x, 1);
        Check.due(call, s.inner(off, cap), StreamFusion.OK);
        Check.stack(call, s, "1/0/c", "1/0/o");
        s.concatMap();
        Check.list(call, s, want);
        Check.cost(call, s, 1 + 2 * want.length);
    }

    private static void pushes() {
        StreamFusion x = new StreamFusion(256);
        x.range(3, 3);
        x.take(1);
        x.inner(1, 1);
        x.map(StreamFusion.F_NEG, 0);
        x.map(StreamFusion.F_NEG, 0);
        Check.due("inner", x.inner(9, 9), StreamFusion.OK);
        Check.stack("inner on two fragments", x, "2/0/c", "3/0/o", "1/0/o");
        Check.fillUp(x, 6);
        Check.refused("inner as node 17", x, StreamFusion.FULL, () -> x.inner(0, 0));
        Check.refused("inner as node 17", x, StreamFusion.FULL, () -> x.inner(0, 99));
    }
}
