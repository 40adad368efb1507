/** Promise 11: clear. */
final class Promise11ClearTest {
    private static final String FRESH = Check.state(new StreamFusion(10));

    public static void main(String[] args) {
        fresh();
        afterResults();
        afterHeapFull();
        afterRefusals();
        fullStack();
        oneFragmentOfSixteenNodes();
        openFragments();
        heapIsKept();
        nothingOfTheOldPipelineStays();
        everyShapeAfterEveryOther();
        Check.end();
    }

    private static void cleared(String what, StreamFusion x) {
        x.clear();
        Check.due("clear() " + what, Check.state(x), FRESH);
        Check.stack("clear() " + what, x);
        Check.noResult("clear() " + what, x);
        Check.due("outCount() after clear() " + what, x.outCount(), 0);
        Check.due("cellsUsed() after clear() " + what, x.cellsUsed(), 0);
        for (int i : new int[] {Integer.MIN_VALUE, -1, 0, 1, 215, 216, 256, Integer.MAX_VALUE}) {
            Check.due("out(" + i + ") after clear() " + what, x.out(i), 0);
        }
        Check.due("run(FUSED) after clear() " + what, x.run(StreamFusion.FUSED), StreamFusion.BAD_SHAPE);
        Check.due("run(MATERIAL) after clear() " + what, x.run(StreamFusion.MATERIAL), StreamFusion.BAD_SHAPE);
        Check.due("map after clear() " + what, x.map(StreamFusion.F_ADD, 1), StreamFusion.UNDERFLOW);
        Check.due("zip after clear() " + what, x.zip(StreamFusion.B_ADD), StreamFusion.UNDERFLOW);
        Check.due("concatMap() after clear() " + what, x.concatMap(), StreamFusion.UNDERFLOW);
        Check.due("the refusals after clear() " + what, Check.state(x), FRESH);
    }

    private static void fresh() {
        StreamFusion x = new StreamFusion(10);
        cleared("when fresh", x);
        cleared("again", x);
    }

    private static void afterResults() {
        StreamFusion x = new StreamFusion(10);
        x.range(5, 6);
        x.take(4);
        Check.cost("a full heap", x, 10);
        cleared("after MATERIAL", x);
        x.range(5, 6);
        Check.list("FUSED", x, 5, 6, 7, 8, 9, 10);
        cleared("after FUSED", x);
        x.range(1, 6);
        x.range(1, 6);
        x.range(1, 6);
        x.concatMap();
        x.concatMap();
        x.run(StreamFusion.FUSED);
        Check.due("216 values", x.outCount(), 216);
        cleared("after 216 values", x);
        x.range(5, 1);
        Check.due("run(FUSED)", x.run(StreamFusion.FUSED), StreamFusion.OK);
        Check.due("the result behind the first value", x.out(1) + " " + x.out(215), "0 0");
    }

    private static void afterHeapFull() {
        StreamFusion x = new StreamFusion(10);
        x.range(5, 6);
        x.take(5);
        Check.heapFull("cost 11 of 10", x);
        cleared("after HEAP_FULL", x);
    }

    private static void afterRefusals() {
        StreamFusion x = new StreamFusion(10);
        x.range(5, 2);
        x.run(StreamFusion.MATERIAL);
        x.inner(0, 1);
        Check.due("run(MATERIAL) of two", x.run(StreamFusion.MATERIAL), StreamFusion.BAD_SHAPE);
        Check.due("run(2)", x.run(2), StreamFusion.BAD_MODE);
        cleared("after refused runs", x);
    }

    private static void fullStack() {
        StreamFusion x = new StreamFusion(10);
        for (int round = 0; round < 3; round++) {
            Check.fillUp(x, 0);
            Check.due("the depth", x.stackDepth(), 16);
            Check.due("range when full", x.range(0, 1), StreamFusion.FULL);
            cleared("of sixteen fragments", x);
        }
    }

    private static void oneFragmentOfSixteenNodes() {
        StreamFusion x = new StreamFusion(10);
        x.range(5, 2);
        for (int n = 1; n < 16; n++) {
            x.take(0);
        }
        Check.cost("sixteen nodes", x, 2);
        Check.due("take when full", x.take(0), StreamFusion.FULL);
        cleared("of sixteen nodes", x);
        Check.fillUp(x, 0);
        Check.due("range as node 17 after clear()", x.range(0, 1), StreamFusion.FULL);
    }

    private static void openFragments() {
        StreamFusion x = new StreamFusion(10);
        x.inner(0, 3);
        x.inner(0, 3);
        cleared("of open fragments", x);
        x.range(4, 2);
        Check.stack("a closed fragment where an open one was", x, "1/0/c");
        Check.both("a closed fragment where an open one was", x, 2, 4, 5);
    }

    private static void heapIsKept() {
        for (int cap : new int[] {7, 8, 10, 100, 256, 257}) {
            int heap = Math.max(8, Math.min(256, cap));
            StreamFusion x = new StreamFusion(cap);
            for (int round = 0; round < 3; round++) {
                Check.buildCost(x, heap);
                Check.cost("the whole heap of " + cap, x, heap);
                x.clear();
                Check.buildCost(x, heap + 1);
                Check.heapFull("one more than the heap of " + cap, x);
                x.clear();
            }
        }
    }

    private static void nothingOfTheOldPipelineStays() {
        StreamFusion x = new StreamFusion(10);
        x.range(1, 3);
        x.inner(0, 6);
        x.inner(0, 6);
        x.concatMap();
        x.concatMap();
        x.run(StreamFusion.FUSED);
        cleared("of bound sources", x);
        x.range(2, 2);
        x.inner(0, 6);
        Check.stack("the source is free again", x, "1/0/c", "1/0/o");
        x.concatMap();
        x.range(1, 1);
        Check.due("the concat counts begin anew", x.concatMap(), StreamFusion.OK);
        Check.list("a new pipeline", x, 1, 1, 1, 1, 1);
    }

    /** What is built and run after clear() is as on a new object, whatever was there before. */
    private static void everyShapeAfterEveryOther() {
        for (Shape before : Shape.ALL) {
            for (Shape after : Shape.ALL) {
                StreamFusion x = new StreamFusion(60);
                StreamFusion unused = new StreamFusion(60);
                before.build().accept(x);
                x.run(StreamFusion.FUSED);
                x.clear();
                after.build().accept(x);
                after.build().accept(unused);
                String what = after.name() + " after " + before.name();
                Check.due("the stack of " + what, Check.state(x), Check.state(unused));
                Check.due("run(FUSED) of " + what, x.run(StreamFusion.FUSED), unused.run(StreamFusion.FUSED));
                Check.due("the list of " + what, Check.state(x), Check.state(unused));
                Check.due("run(MATERIAL) of " + what, x.run(StreamFusion.MATERIAL), unused.run(StreamFusion.MATERIAL));
                Check.due("the cost of " + what, Check.state(x), Check.state(unused));
            }
        }
    }
}
