/** Promise 15: stackDepth and fragment. */
final class Promise15StackTest {
    public static void main(String[] args) {
        emptyStack();
        everyDepth();
        fromTheBottom();
        sizeCountAndOpen();
        greatestSizeAndCount();
        afterEveryAnswer();
        nothingChanges();
        Check.end();
    }

    private static void outside(StreamFusion x, int depth) {
        Check.due("stackDepth()", x.stackDepth(), depth);
        for (int i : new int[] {Integer.MIN_VALUE, -16, -2, -1, depth, depth + 1, 16, 17, 256, Integer.MAX_VALUE}) {
            Check.due("fragment(" + i + ") at depth " + depth, x.fragment(i), -1);
        }
    }

    private static void emptyStack() {
        StreamFusion x = new StreamFusion(256);
        outside(x, 0);
        Check.due("fragment(0) of nothing", x.fragment(0), -1);
        x.take(1);
        outside(x, 0);
        x.range(0, 1);
        x.clear();
        outside(x, 0);
    }

    private static void everyDepth() {
        StreamFusion x = new StreamFusion(256);
        for (int depth = 1; depth <= 16; depth++) {
            x.inner(0, 1);
            for (int i = 0; i < depth; i++) {
                Check.due("fragment(" + i + ") of " + depth, x.fragment(i), 17);
            }
            outside(x, depth);
        }
        Check.due("inner as fragment 17", x.inner(0, 1), StreamFusion.FULL);
        Check.due("fragment(15) of 16", x.fragment(15), 17);
        outside(x, 16);
        x.clear();
        outside(x, 0);
    }

    private static void fromTheBottom() {
        StreamFusion x = new StreamFusion(256);
        x.range(0, 1);
        x.range(0, 1);
        x.take(1);
        x.inner(0, 1);
        x.take(1);
        x.take(1);
        x.range(0, 1);
        x.range(0, 1);
        x.concatMap();
        Check.due("fragment(0)", x.fragment(0), 16);
        Check.due("fragment(1)", x.fragment(1), 32);
        Check.due("fragment(2)", x.fragment(2), 49);
        Check.due("fragment(3)", x.fragment(3), 50);
        outside(x, 4);
    }

    private static void sizeCountAndOpen() {
        StreamFusion y = new StreamFusion(256);
        y.range(0, 1);
        Check.due("range", y.fragment(0), 16);
        y.take(1);
        Check.due("range, take", y.fragment(0), 32);
        y.inner(0, 1);
        Check.due("inner", y.fragment(1), 17);
        y.concatMap();
        Check.due("concatMap", y.fragment(0), 66);
        y.range(0, 1);
        y.concatMap();
        Check.due("two concatMaps", y.fragment(0), 16 * 6 + 4);
        y.inner(0, 1);
        y.zip(StreamFusion.B_ADD);
        Check.due("an open zip of two concatMaps", y.fragment(0), 16 * 8 + 5);
        for (int size = 9; size <= 16; size++) {
            y.map(StreamFusion.F_ADD, 1);
            Check.due("size " + size, y.fragment(0), 16 * size + 5);
        }
        outside(y, 1);
    }

    /** Zips let the concat count grow beyond the limit of concatMap; five is the most that 16 nodes hold. */
    private static void greatestSizeAndCount() {
        StreamFusion x = new StreamFusion(256);
        for (int i = 0; i < 2; i++) {
            x.range(0, 6);
            x.range(0, 6);
            x.concatMap();
            x.range(0, 6);
            x.concatMap();
        }
        x.range(0, 6);
        x.range(0, 6);
        x.concatMap();
        Check.stack("counts 2, 2 and 1", x, "5/2/c", "5/2/c", "3/1/c");
        x.zip(StreamFusion.B_ADD);
        x.zip(StreamFusion.B_ADD);
        Check.due("15 nodes of count 5", x.fragment(0), 16 * 15 + 2 * 5);
        x.take(1);
        Check.due("16 nodes of count 5", x.fragment(0), 16 * 16 + 2 * 5);
        outside(x, 1);
        Check.list("their list", x, 0);
    }

    private static void afterEveryAnswer() {
        StreamFusion x = new StreamFusion(8);
        x.range(0, 4);
        x.run(StreamFusion.FUSED);
        Check.stack("after FUSED", x, "1/0/c");
        x.run(StreamFusion.MATERIAL);
        Check.stack("after MATERIAL", x, "1/0/c");
        x.take(4);
        x.take(1);
        Check.due("run(MATERIAL)", x.run(StreamFusion.MATERIAL), StreamFusion.HEAP_FULL);
        Check.stack("after HEAP_FULL", x, "3/0/c");
        x.run(2);
        Check.stack("after BAD_MODE", x, "3/0/c");
        x.inner(0, 4);
        x.run(StreamFusion.FUSED);
        Check.stack("after BAD_SHAPE", x, "3/0/c", "1/0/o");
        x.zip(9);
        x.map(9, 0);
        Check.stack("after BAD_OP", x, "3/0/c", "1/0/o");
        x.clear();
        outside(x, 0);
        x.zip(0);
        outside(x, 0);
    }

    private static void nothingChanges() {
        StreamFusion x = new StreamFusion(256);
        x.range(0, 3);
        x.run(StreamFusion.MATERIAL);
        x.inner(0, 3);
        String before = Check.state(x);
        for (int i = -2; i <= 17; i++) {
            x.fragment(i);
            x.stackDepth();
            Check.due("the state after fragment(" + i + ")", Check.state(x), before);
        }
        x.concatMap();
        Check.both("the pipeline", x, 3 + 3 + 3, 1, 2, 3);
    }
}
