/** Promise 3: inner. */
final class Promise03InnerTest {
    private static final int MAX = Integer.MAX_VALUE;
    private static final int MIN = Integer.MIN_VALUE;

    public static void main(String[] args) {
        values(3, 10, 6, 13, 14, 15);
        values(6, 0, 6, 6, 7, 8, 9, 10, 11);
        values(7, 0, 6);
        values(8, 0, 6, 8);
        values(0, 5, 6);
        values(3, 0, 0);
        values(3, 0, -1);
        values(3, 0, MIN);
        values(3, 0, 1, 3);
        values(2, 0, 1);
        values(13, 0, 7, 13, 14, 15, 16, 17, 18);
        values(7, 0, 7);
        values(6, 0, MAX, 6, 7, 8, 9, 10, 11);
        values(-1, 0, 6, -1, 0, 1, 2, 3, 4);
        values(-1, 0, 2, -1, 0);
        values(-7, 0, 6);
        values(-8, 0, 4, -8, -7);
        values(MAX, 0, 1, MAX);
        values(MAX, 0, 2, MAX);
        values(MAX, 1, 4, MIN, MIN + 1);
        values(MAX, 0, 4, MAX, MIN);
        values(MIN, -1, 6, MAX, MIN, MIN + 1, MIN + 2, MIN + 3);
        values(5, MAX, 6, MIN + 4, MIN + 5, MIN + 6, MIN + 7, MIN + 8);
        everyCap();
        wraps();
        pushes();
        fragmentsBelowKeepTheirLists();
        fullInEveryShape();
        Check.end();
    }

    /** The list of inner(off, cap) given x. */
    private static void values(int x, int off, int cap, int... want) {
        StreamFusion s = new StreamFusion(256);
        String call = "inner(" + off + ", " + cap + ") given " + x;
        s.range(x, 1);
        Check.due(call, s.inner(off, cap), StreamFusion.OK);
        Check.stack(call, s, "1/0/c", "1/0/o");
        s.concatMap();
        Check.list(call, s, want);
        Check.cost(call, s, 1 + 2 * want.length);
    }

    private static void pushes() {
        StreamFusion x = new StreamFusion(256);
        x.range(3, 3);
        x.take(1);
        x.inner(1, 1);
        x.map(StreamFusion.F_NEG, 0);
        x.map(StreamFusion.F_NEG, 0);
        Check.due("inner", x.inner(9, 9), StreamFusion.OK);
        Check.stack("inner on two fragments", x, "2/0/c", "3/0/o", "1/0/o");
        Check.fillUp(x, 6);
        Check.refused("inner as node 17", x, StreamFusion.FULL, () -> x.inner(0, 0));
        Check.refused("inner as node 17", x, StreamFusion.FULL, () -> x.inner(0, 99));
    }

    /** 34 modulo cap + 1, with the cap clamped. */
    private static void everyCap() {
        int[] caps = {MIN, -1, 0, 1, 2, 3, 4, 5, 6, 7, 8, MAX};
        int[] lengths = {0, 0, 0, 0, 1, 2, 4, 4, 6, 6, 6, 6};
        for (int i = 0; i < caps.length; i++) {
            int[] want = new int[lengths[i]];
            for (int j = 0; j < want.length; j++) {
                want[j] = 34 + j;
            }
            values(34, 0, caps[i], want);
        }
    }

    private static void wraps() {
        values(6, MAX - 6, 6, MAX, MIN, MIN + 1, MIN + 2, MIN + 3, MIN + 4);
        values(6, MAX - 11, 6, MAX - 5, MAX - 4, MAX - 3, MAX - 2, MAX - 1, MAX);
        values(6, MAX, 6, MIN + 5, MIN + 6, MIN + 7, MIN + 8, MIN + 9, MIN + 10);
        values(-1, MIN, 6, MAX, MIN, MIN + 1, MIN + 2, MIN + 3, MIN + 4);
        values(MIN, MIN, 2, 0);
        values(MAX, MAX, 2, -2);
    }

    private static void fragmentsBelowKeepTheirLists() {
        StreamFusion x = new StreamFusion(256);
        x.range(10, 3);
        x.range(20, 2);
        x.inner(30, 6);
        Check.stack("inner on two fragments", x, "1/0/c", "1/0/c", "1/0/o");
        x.concatMap();
        x.zip(StreamFusion.B_SUB);
        // 20 and 21 give inner(30, 6) six elements and none.
        Check.list("the lists below inner", x, 10 - 50, 11 - 51, 12 - 52);
    }

    private static void fullInEveryShape() {
        StreamFusion one = new StreamFusion(256);
        one.inner(1, 2);
        for (int n = 1; n < 15; n++) {
            one.map(StreamFusion.F_ADD, 1);
        }
        Check.due("inner as node 16", one.inner(1, 1), StreamFusion.OK);
        Check.refused("inner as node 17 on two fragments", one, StreamFusion.FULL, () -> one.inner(1, 1));

        StreamFusion joined = new StreamFusion(256);
        joined.range(1, 3);
        joined.inner(0, 6);
        joined.concatMap();
        for (int n = 3; n < 16; n++) {
            joined.map(StreamFusion.F_ADD, 1);
        }
        Check.refused("inner as node 17 on one fragment", joined, StreamFusion.FULL, () -> joined.inner(1, 1));
        Check.list("the one fragment", joined, 14, 15, 16, 16, 17, 18);

        StreamFusion many = new StreamFusion(256);
        for (int n = 0; n < 16; n++) {
            Check.due("inner as fragment " + (n + 1), many.inner(n, n), StreamFusion.OK);
        }
        Check.refused("inner as fragment 17", many, StreamFusion.FULL, () -> many.inner(MAX, MAX));
    }
}
