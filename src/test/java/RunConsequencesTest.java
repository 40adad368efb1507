/**
 * The consequences at the end of promise 12: two objects in the same state, one run FUSED and the
 * other MATERIAL, over many shapes, heaps and earlier results.
 */
final class RunConsequencesTest {
    private static final int[] HEAPS = {8, 9, 12, 13, 20, 40, 77, 78, 90, 150, 256};
    private static final int[] answers = new int[8];

    public static void main(String[] args) {
        for (Shape shape : Shape.ALL) {
            for (int heap : HEAPS) {
                for (int earlier = 0; earlier < 4; earlier++) {
                    look(shape, heap, earlier);
                }
            }
        }
        Check.due("OK came", answers[StreamFusion.OK] > 0, true);
        Check.due("BAD_SHAPE came", answers[StreamFusion.BAD_SHAPE] > 0, true);
        Check.due("HEAP_FULL came", answers[StreamFusion.HEAP_FULL] > 0, true);
        Check.end();
    }

    private static void look(Shape shape, int heap, int earlier) {
        String what = shape.name() + " with heap " + heap + " after " + earlier;
        StreamFusion x = build(shape, heap, earlier);
        StreamFusion y = build(shape, heap, earlier);
        Check.due("the same state: " + what, Check.state(x), Check.state(y));
        String stack = Check.shape(x);
        int fused = x.run(StreamFusion.FUSED);
        int material = y.run(StreamFusion.MATERIAL);
        answers[material]++;

        if (material == StreamFusion.OK) {
            Check.due("FUSED where MATERIAL is OK: " + what, fused, StreamFusion.OK);
            sameValues(what, x, y);
            Check.due("cells within the heap: " + what, y.cellsUsed() >= y.outCount() && y.cellsUsed() <= heap, true);
        }
        if (fused == StreamFusion.OK) {
            boolean known = material == StreamFusion.OK || material == StreamFusion.HEAP_FULL;
            Check.due("MATERIAL where FUSED is OK: " + what, known, true);
            Check.due("cellsUsed() after FUSED: " + what, x.cellsUsed(), 0);
        } else {
            Check.due("FUSED where it is not OK: " + what, fused, StreamFusion.BAD_SHAPE);
        }
        Check.due("BAD_SHAPE in both: " + what, fused == StreamFusion.BAD_SHAPE, material == StreamFusion.BAD_SHAPE);
        Check.due("the stack after FUSED: " + what, Check.shape(x), stack);
        Check.due("the stack after MATERIAL: " + what, Check.shape(y), stack);
        again(what, x, StreamFusion.FUSED, fused);
        again(what, y, StreamFusion.MATERIAL, material);
    }

    private static void sameValues(String what, StreamFusion x, StreamFusion y) {
        Check.due("the counts: " + what, y.outCount(), x.outCount());
        for (int i = -1; i <= StreamFusion.OUT_CAP; i++) {
            Check.due("out(" + i + "): " + what, y.out(i), x.out(i));
        }
    }

    private static void again(String what, StreamFusion x, int mode, int answer) {
        String first = Check.state(x);
        Check.due("run(" + mode + ") again: " + what, x.run(mode), answer);
        Check.due("the state after run(" + mode + ") again: " + what, Check.state(x), first);
    }

    /** Earlier runs of the same pipeline: 0 none, 1 FUSED, 2 MATERIAL, 3 both. */
    private static StreamFusion build(Shape shape, int heap, int earlier) {
        StreamFusion x = new StreamFusion(heap);
        shape.build().accept(x);
        if (earlier % 2 == 1) {
            x.run(StreamFusion.FUSED);
        }
        if (earlier >= 2) {
            x.run(StreamFusion.MATERIAL);
        }
        return x;
    }
}
