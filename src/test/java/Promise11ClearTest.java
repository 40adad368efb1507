/** Promise 11: clear. */
final class Promise11ClearTest {
    public static void main(String[] args) {
        StreamFusion x = new StreamFusion(10);
        String fresh = Check.state(x);
        x.clear();
        Check.due("clear() of a fresh object", Check.state(x), fresh);

        x.range(5, 6);
        x.take(4);
        Check.cost("a full heap", x, 10);
        x.clear();
        Check.due("clear() after a run", Check.state(x), fresh);
        Check.due("run(FUSED) after clear()", x.run(StreamFusion.FUSED), StreamFusion.BAD_SHAPE);
        Check.due("map after clear()", x.map(StreamFusion.F_ADD, 1), StreamFusion.UNDERFLOW);
        Check.due("zip after clear()", x.zip(StreamFusion.B_ADD), StreamFusion.UNDERFLOW);
        Check.due("after the refusals", Check.state(x), fresh);

        heapIsKept(x);
        fullObjectIsEmptied(x, fresh);
        nothingOfTheOldPipelineStays(x, fresh);
        Check.end();
    }

    private static void heapIsKept(StreamFusion x) {
        x.range(5, 6);
        x.take(5);
        Check.due("run(MATERIAL) of cost 11", x.run(StreamFusion.MATERIAL), StreamFusion.HEAP_FULL);
        x.clear();
        x.range(5, 6);
        x.take(4);
        Check.cost("cost 10", x, 10);
        x.clear();
    }

    private static void fullObjectIsEmptied(StreamFusion x, String fresh) {
        Check.fillUp(x, 0);
        x.clear();
        Check.due("clear() of a full object", Check.state(x), fresh);
        Check.fillUp(x, 0);
        x.clear();
    }

    private static void nothingOfTheOldPipelineStays(StreamFusion x, String fresh) {
        x.range(1, 3);
        x.inner(0, 6);
        x.inner(0, 6);
        x.concatMap();
        x.concatMap();
        x.run(StreamFusion.FUSED);
        x.clear();
        Check.due("clear() of bound sources", Check.state(x), fresh);
        x.range(2, 2);
        x.inner(0, 6);
        Check.stack("the source is free again", x, "1/0/c", "1/0/o");
        x.concatMap();
        x.range(1, 1);
        Check.due("the concat counts begin anew", x.concatMap(), StreamFusion.OK);
        Check.list("a new pipeline", x, 1, 1, 1, 1, 1);
    }
}
