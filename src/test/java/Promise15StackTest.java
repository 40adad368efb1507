/** Promise 15: stackDepth and fragment. */
final class Promise15StackTest {
    public static void main(String[] args) {
        StreamFusion x = new StreamFusion(256);
        outside(x, 0);
        for (int depth = 1; depth <= 16; depth++) {
            x.inner(0, 1);
            Check.due("stackDepth()", x.stackDepth(), depth);
            Check.due("fragment of the top", x.fragment(depth - 1), 17);
            outside(x, depth);
        }
        x.inner(0, 1);
        outside(x, 16);

        StreamFusion y = new StreamFusion(256);
        y.range(0, 1);
        Check.due("range", y.fragment(0), 16);
        y.take(1);
        Check.due("range, take", y.fragment(0), 32);
        y.inner(0, 1);
        Check.due("inner", y.fragment(1), 17);
        y.concatMap();
        Check.due("concatMap", y.fragment(0), 66);
        y.range(0, 1);
        y.concatMap();
        Check.due("two concatMaps", y.fragment(0), 16 * 6 + 4);
        y.inner(0, 1);
        y.zip(StreamFusion.B_ADD);
        Check.due("an open zip of two concatMaps", y.fragment(0), 16 * 8 + 5);
        Check.due("the getters change nothing", Check.state(y), Check.state(y));
        for (int size = 9; size <= 16; size++) {
            y.map(StreamFusion.F_ADD, 1);
            Check.due("size " + size, y.fragment(0), 16 * size + 5);
        }
        outside(y, 1);
        y.clear();
        outside(y, 0);
        Check.end();
    }

    private static void outside(StreamFusion x, int depth) {
        Check.due("stackDepth()", x.stackDepth(), depth);
        for (int i : new int[] {Integer.MIN_VALUE, -16, -1, depth, depth + 1, 16, 17, 256, Integer.MAX_VALUE}) {
            Check.due("fragment(" + i + ") at depth " + depth, x.fragment(i), -1);
        }
    }
}
