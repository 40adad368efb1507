/** Promise 12: run. */
final class Promise12RunTest {
    public static void main(String[] args) {
        refusals();
        modes();
        heapFull();
        fragmentsStay();
        Check.end();
    }

    private static void refusals() {
        StreamFusion x = new StreamFusion(256);
        refusedInBothModes("an empty stack", x);
        x.range(3, 2);
        Check.cost("range(3, 2)", x, 2);
        badModes("one closed fragment", x);
        x.range(0, 1);
        refusedInBothModes("two closed fragments", x);
        x.inner(0, 1);
        refusedInBothModes("three fragments", x);
        Check.fillUp(x, 3);
        refusedInBothModes("sixteen fragments", x);
        Check.due("the old result", x.outCount() + " " + x.out(0) + " " + x.out(1) + " " + x.cellsUsed(), "2 3 4 2");

        StreamFusion y = new StreamFusion(256);
        y.inner(0, 2);
        refusedInBothModes("one open fragment", y);
        y.map(StreamFusion.F_ADD, 1);
        refusedInBothModes("one open fragment with a map", y);
        y.range(0, 2);
        y.concatMap();
        refusedInBothModes("a concatMap with an open O", y);
    }

    private static void refusedInBothModes(String what, StreamFusion x) {
        Check.refused("run(FUSED) of " + what, x, StreamFusion.BAD_SHAPE, () -> x.run(StreamFusion.FUSED));
        Check.refused("run(MATERIAL) of " + what, x, StreamFusion.BAD_SHAPE, () -> x.run(StreamFusion.MATERIAL));
        badModes(what, x);
    }

    private static void badModes(String what, StreamFusion x) {
        for (int mode : new int[] {Integer.MIN_VALUE, -1, 2, 3, 7, Integer.MAX_VALUE}) {
            Check.refused("run(" + mode + ") of " + what, x, StreamFusion.BAD_MODE, () -> x.run(mode));
        }
    }

    private static void modes() {
        StreamFusion x = new StreamFusion(26);
        x.range(1, 4);
        x.inner(10, 2);
        x.concatMap();
        x.filter(StreamFusion.P_ODD, 0);
        x.range(100, 6);
        x.zip(StreamFusion.B_ADD);
        x.scan(StreamFusion.B_ADD, 0);
        x.take(5);
        for (int round = 0; round < 3; round++) {
            Check.list("FUSED in round " + round, x, 111, 225);
            Check.list("FUSED again in round " + round, x, 111, 225);
            Check.cost("MATERIAL in round " + round, x, 26);
            Check.due("outCount() of MATERIAL", x.outCount(), 2);
            Check.due("out(0) of MATERIAL", x.out(0), 111);
            Check.due("out(1) of MATERIAL", x.out(1), 225);
            Check.due("out(2) of MATERIAL", x.out(2), 0);
            Check.cost("MATERIAL again in round " + round, x, 26);
        }
        StreamFusion e = new StreamFusion(8);
        e.range(1, 0);
        Check.list("FUSED of an empty list", e);
        Check.cost("MATERIAL of an empty list", e, 0);
        Check.due("outCount() of an empty list", e.outCount(), 0);
    }

    private static void heapFull() {
        StreamFusion x = new StreamFusion(8);
        x.range(1, 6);
        x.drop(4);
        Check.cost("cost 8 of 8", x, 8);
        x.take(1);
        Check.due("run(MATERIAL) of cost 9", x.run(StreamFusion.MATERIAL), StreamFusion.HEAP_FULL);
        empty("HEAP_FULL", x);
        Check.due("run(MATERIAL) of cost 9 again", x.run(StreamFusion.MATERIAL), StreamFusion.HEAP_FULL);
        empty("HEAP_FULL again", x);
        Check.list("FUSED after HEAP_FULL", x, 5);
        Check.due("run(MATERIAL) after FUSED", x.run(StreamFusion.MATERIAL), StreamFusion.HEAP_FULL);
        empty("HEAP_FULL after FUSED", x);
        Check.refused("run(2) after HEAP_FULL", x, StreamFusion.BAD_MODE, () -> x.run(2));
    }

    private static void empty(String what, StreamFusion x) {
        Check.due(what + ": outCount()", x.outCount(), 0);
        Check.due(what + ": cellsUsed()", x.cellsUsed(), 0);
        for (int i = -1; i <= StreamFusion.OUT_CAP; i++) {
            Check.due(what + ": out(" + i + ")", x.out(i), 0);
        }
    }

    private static void fragmentsStay() {
        StreamFusion x = new StreamFusion(8);
        x.range(1, 3);
        x.inner(0, 6);
        x.concatMap();
        for (int mode = -1; mode <= 2; mode++) {
            x.run(mode);
            Check.stack("after run(" + mode + ")", x, "3/1/c");
        }
        Check.list("before growing on", x, 1, 2, 3, 3, 4, 5);
        x.inner(0, 1);
        Check.due("growing on", x.concatMap(), StreamFusion.OK);
        Check.list("after growing on", x, 1, 3, 3, 5);
        for (int i = 5; i < 16; i++) {
            Check.due("take as node " + (i + 1), x.take(9), StreamFusion.OK);
            x.run(StreamFusion.FUSED);
        }
        Check.due("take as node 17", x.take(9), StreamFusion.FULL);
    }
}
