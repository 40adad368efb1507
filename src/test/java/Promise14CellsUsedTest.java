/** Promise 14: cellsUsed, with the material cost of every kind of node. */
final class Promise14CellsUsedTest {
    public static void main(String[] args) {
        costOfEachNode();
        everyInnerInstanceCounts();
        setByTheLastRun();
        Check.end();
    }

    private static void costOfEachNode() {
        StreamFusion x = new StreamFusion(256);
        x.range(1, 6);
        Check.cost("range", x, 6);
        x.map(StreamFusion.F_ADD, 0);
        Check.cost("map", x, 12);
        x.filter(StreamFusion.P_EVEN, 0);
        Check.cost("filter", x, 15);
        x.scan(StreamFusion.B_ADD, 0);
        Check.cost("scan", x, 18);
        x.drop(1);
        Check.cost("drop", x, 20);
        x.take(1);
        Check.cost("take", x, 21);
        x.range(0, 5);
        x.zip(StreamFusion.B_FST);
        Check.cost("zip", x, 21 + 5 + 1);
        x.range(0, 4);
        x.concatMap();
        Check.cost("concatMap", x, 27 + 4 + 4);
        x.take(0);
        Check.cost("take(0)", x, 35);
    }

    private static void everyInnerInstanceCounts() {
        StreamFusion x = new StreamFusion(256);
        x.range(1, 3);
        x.range(0, 5);
        x.map(StreamFusion.F_ADD, 1);
        x.take(1);
        x.concatMap();
        Check.cost("a closed inner part", x, 3 + 3 * (5 + 5 + 1) + 3);

        StreamFusion y = new StreamFusion(256);
        y.range(1, 3);
        y.inner(0, 3);
        y.inner(0, 3);
        y.drop(1);
        y.concatMap();
        y.concatMap();
        Check.list("two levels", y, 3, 4, 5, 4, 5);
        Check.cost("two levels", y, 3 + 6 + 10 + 5 + 5 + 5);

        StreamFusion cut = new StreamFusion(256);
        cut.range(1, 3);
        cut.range(0, 5);
        cut.concatMap();
        cut.range(9, 1);
        cut.zip(StreamFusion.B_SND);
        Check.cost("a zip that needs one element counts all", cut, 3 + 15 + 15 + 1 + 1);
    }

    private static void setByTheLastRun() {
        StreamFusion x = new StreamFusion(9);
        Check.due("fresh", x.cellsUsed(), 0);
        x.run(StreamFusion.MATERIAL);
        Check.due("after BAD_SHAPE", x.cellsUsed(), 0);
        x.range(0, 4);
        Check.cost("range", x, 4);
        x.run(9);
        Check.due("after BAD_MODE", x.cellsUsed(), 4);
        x.take(4);
        Check.due("after building", x.cellsUsed(), 4);
        x.inner(0, 1);
        x.run(StreamFusion.MATERIAL);
        Check.due("after BAD_SHAPE", x.cellsUsed(), 4);
        x.clear();
        Check.due("after clear", x.cellsUsed(), 0);
        x.range(0, 4);
        x.take(4);
        Check.cost("range and take", x, 8);
        x.run(StreamFusion.FUSED);
        Check.due("after FUSED", x.cellsUsed(), 0);
        x.run(StreamFusion.MATERIAL);
        x.take(2);
        Check.due("after building", x.cellsUsed(), 8);
        Check.due("run(MATERIAL)", x.run(StreamFusion.MATERIAL), StreamFusion.HEAP_FULL);
        Check.due("after HEAP_FULL", x.cellsUsed(), 0);
    }
}
