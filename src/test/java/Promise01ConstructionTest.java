/** Promise 1: construction, the clamped heap, and the words common to all building calls. */
final class Promise01ConstructionTest {
    public static void main(String[] args) {
        fresh();
        heapAtBothEnds();
        everyHeapIsKeptOrClamped();
        heapNeverChanges();
        buildingLeavesTheResult();
        refusalsChangeNothing();
        Check.end();
    }

    private static void fresh() {
        for (int cap : new int[] {Integer.MIN_VALUE, -1, 0, 8, 100, 256, 257, Integer.MAX_VALUE}) {
            StreamFusion x = new StreamFusion(cap);
            Check.stack("fresh with " + cap, x);
            Check.due("outCount()", x.outCount(), 0);
            Check.due("cellsUsed()", x.cellsUsed(), 0);
            for (int i : new int[] {Integer.MIN_VALUE, -1, 0, 1, 215, 216, 255, 256, Integer.MAX_VALUE}) {
                Check.due("fresh out(" + i + ")", x.out(i), 0);
            }
            Check.fillUp(x, 0);
        }
    }

    private static void heapAtBothEnds() {
        heap(7, 8);
        heap(8, 8);
        heap(9, 9);
        heap(255, 255);
        heap(256, 256);
        heap(257, 256);
    }

    private static void heapNeverChanges() {
        StreamFusion x = new StreamFusion(20);
        for (int round = 0; round < 3; round++) {
            Check.buildCost(x, 20);
            x.run(StreamFusion.FUSED);
            Check.cost("cost 20 of 20", x, 20);
            x.run(2);
            x.map(-1, 0);
            Check.cost("cost 20 of 20 after refusals", x, 20);
            x.take(1);
            Check.heapFull("cost 21 of 20", x);
            x.run(StreamFusion.FUSED);
            Check.heapFull("cost 21 of 20 after FUSED", x);
            x.clear();
        }
        StreamFusion other = new StreamFusion(8);
        Check.buildCost(x, 20);
        Check.buildCost(other, 20);
        Check.cost("cost 20 of 20 beside another object", x, 20);
        Check.heapFull("cost 20 of 8", other);
    }

    private static void everyHeapIsKeptOrClamped() {
        for (int cap = -3; cap <= 300; cap++) {
            heap(cap, Math.max(8, Math.min(256, cap)));
        }
        heap(Integer.MIN_VALUE, 8);
        heap(Integer.MAX_VALUE, 256);
    }

    private static void heap(int cap, int kept) {
        StreamFusion x = new StreamFusion(cap);
        for (int round = 0; round < 2; round++) {
            Check.buildCost(x, kept);
            Check.cost("cost " + kept + " with " + cap, x, kept);
            x.clear();
            Check.buildCost(x, kept + 1);
            Check.due("run(MATERIAL) of cost " + (kept + 1) + " with " + cap, x.run(StreamFusion.MATERIAL), StreamFusion.HEAP_FULL);
            x.clear();
        }
    }

    private static void buildingLeavesTheResult() {
        StreamFusion x = new StreamFusion(100);
        x.range(7, 3);
        Check.cost("range(7, 3)", x, 3);
        resultStands("range", x, x.range(1, 2));
        resultStands("inner", x, x.inner(1, 2));
        resultStands("map", x, x.map(StreamFusion.F_ADD, 1));
        resultStands("filter", x, x.filter(StreamFusion.P_NE, 1));
        resultStands("take", x, x.take(1));
        resultStands("drop", x, x.drop(1));
        resultStands("scan", x, x.scan(StreamFusion.B_ADD, 1));
        resultStands("zip", x, x.zip(StreamFusion.B_ADD));
        resultStands("concatMap", x, x.concatMap());
        Check.stack("all building calls", x, "10/1/c");
    }

    private static void resultStands(String call, StreamFusion x, int answer) {
        Check.due(call, answer, StreamFusion.OK);
        Check.due("outCount() after " + call, x.outCount(), 3);
        Check.due("out(0) after " + call, x.out(0), 7);
        Check.due("out(2) after " + call, x.out(2), 9);
        Check.due("cellsUsed() after " + call, x.cellsUsed(), 3);
    }

    private static void refusalsChangeNothing() {
        StreamFusion x = new StreamFusion(100);
        x.range(7, 3);
        x.run(StreamFusion.MATERIAL);
        x.map(StreamFusion.F_ADD, 1);
        x.inner(0, 2);
        Check.fillUp(x, 3);
        Check.refused("range when full", x, StreamFusion.FULL, () -> x.range(0, 1));
        Check.refused("inner when full", x, StreamFusion.FULL, () -> x.inner(0, 1));
        Check.refused("map when full", x, StreamFusion.FULL, () -> x.map(0, 1));
        Check.refused("filter when full", x, StreamFusion.FULL, () -> x.filter(0, 1));
        Check.refused("take when full", x, StreamFusion.FULL, () -> x.take(1));
        Check.refused("drop when full", x, StreamFusion.FULL, () -> x.drop(1));
        Check.refused("scan when full", x, StreamFusion.FULL, () -> x.scan(0, 1));
        Check.refused("zip when full", x, StreamFusion.FULL, () -> x.zip(0));
        Check.refused("concatMap when full", x, StreamFusion.FULL, () -> x.concatMap());
    }
}
