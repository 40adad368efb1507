/** Promise 14: cellsUsed. */
final class Promise14CellsUsedTest {
    public static void main(String[] args) {
        fresh();
        afterMaterial();
        afterFused();
        afterHeapFull();
        afterRefusedRuns();
        afterClear();
        whileBuilding();
        nothingChanges();
        Check.end();
    }

    private static void is(String what, StreamFusion x, int want) {
        Check.due("cellsUsed() " + what, x.cellsUsed(), want);
        Check.due("cellsUsed() again " + what, x.cellsUsed(), want);
    }

    private static void fresh() {
        StreamFusion x = new StreamFusion(256);
        is("when fresh", x, 0);
        x.range(0, 6);
        is("before the first run", x, 0);
    }

    private static void afterMaterial() {
        StreamFusion x = new StreamFusion(9);
        x.range(0, 0);
        x.run(StreamFusion.MATERIAL);
        is("of an empty list", x, 0);
        x.clear();
        x.range(0, 4);
        x.run(StreamFusion.MATERIAL);
        is("of 4", x, 4);
        x.take(4);
        x.run(StreamFusion.MATERIAL);
        is("of 4 + 4", x, 8);
        x.take(1);
        x.run(StreamFusion.MATERIAL);
        is("of the whole heap", x, 9);
        x.take(0);
        x.run(StreamFusion.MATERIAL);
        is("of the whole heap with an empty list", x, 9);
        Check.due("outCount()", x.outCount(), 0);
        x.clear();
        x.range(0, 2);
        x.run(StreamFusion.MATERIAL);
        is("of less than before", x, 2);
    }

    private static void afterFused() {
        StreamFusion x = new StreamFusion(9);
        x.range(0, 4);
        x.run(StreamFusion.FUSED);
        is("after FUSED", x, 0);
        x.run(StreamFusion.MATERIAL);
        x.run(StreamFusion.FUSED);
        is("after FUSED behind MATERIAL", x, 0);
        x.run(StreamFusion.MATERIAL);
        is("after MATERIAL behind FUSED", x, 4);
    }

    private static void afterHeapFull() {
        StreamFusion x = new StreamFusion(9);
        x.range(0, 4);
        x.take(4);
        x.run(StreamFusion.MATERIAL);
        is("of 4 + 4", x, 8);
        x.take(2);
        Check.due("run(MATERIAL)", x.run(StreamFusion.MATERIAL), StreamFusion.HEAP_FULL);
        is("after HEAP_FULL", x, 0);
        Check.due("run(MATERIAL)", x.run(StreamFusion.MATERIAL), StreamFusion.HEAP_FULL);
        is("after HEAP_FULL again", x, 0);
    }

    private static void afterRefusedRuns() {
        StreamFusion x = new StreamFusion(9);
        x.run(StreamFusion.MATERIAL);
        is("after BAD_SHAPE when fresh", x, 0);
        x.run(2);
        is("after BAD_MODE when fresh", x, 0);
        x.range(0, 4);
        x.run(StreamFusion.MATERIAL);
        x.run(9);
        is("after BAD_MODE behind MATERIAL", x, 4);
        x.inner(0, 1);
        x.run(StreamFusion.FUSED);
        is("after BAD_SHAPE of FUSED behind MATERIAL", x, 4);
        x.run(StreamFusion.MATERIAL);
        is("after BAD_SHAPE of MATERIAL behind MATERIAL", x, 4);
        x.zip(StreamFusion.B_FST);
        x.run(StreamFusion.MATERIAL);
        is("after BAD_SHAPE of an open fragment behind MATERIAL", x, 4);
        x.clear();
        x.range(0, 4);
        x.run(StreamFusion.FUSED);
        x.run(-1);
        is("after BAD_MODE behind FUSED", x, 0);
        x.range(0, 1);
        x.run(StreamFusion.MATERIAL);
        is("after BAD_SHAPE behind FUSED", x, 0);
        x.clear();
        x.range(0, 6);
        x.take(6);
        x.run(StreamFusion.MATERIAL);
        x.run(-1);
        is("after BAD_MODE behind HEAP_FULL", x, 0);
        x.range(0, 1);
        x.run(StreamFusion.MATERIAL);
        is("after BAD_SHAPE behind HEAP_FULL", x, 0);
    }

    private static void afterClear() {
        StreamFusion x = new StreamFusion(9);
        x.range(0, 4);
        x.run(StreamFusion.MATERIAL);
        x.clear();
        is("after clear()", x, 0);
        x.range(0, 4);
        is("after clear() and building", x, 0);
    }

    private static void whileBuilding() {
        StreamFusion x = new StreamFusion(9);
        x.range(0, 4);
        x.run(StreamFusion.MATERIAL);
        x.take(4);
        is("after take", x, 4);
        x.range(0, 6);
        is("after range", x, 4);
        x.zip(StreamFusion.B_ADD);
        is("after zip", x, 4);
        x.zip(StreamFusion.B_ADD);
        is("after a refused zip", x, 4);
    }

    private static void nothingChanges() {
        StreamFusion x = new StreamFusion(9);
        x.range(3, 4);
        x.run(StreamFusion.MATERIAL);
        String before = Check.state(x);
        x.cellsUsed();
        Check.due("the state after cellsUsed()", Check.state(x), before);
    }
}
