import java.util.function.Consumer;

/** Promise 12: run. */
final class Promise12RunTest {
    private static final int[] WRONG_MODES = {Integer.MIN_VALUE, -2, -1, 2, 3, 7, 256, Integer.MAX_VALUE};

    public static void main(String[] args) {
        badShapes();
        badModes();
        refusalsKeepThePreviousResult();
        fused();
        material();
        heapExactlyUsed();
        heapFullEmptiesTheResult();
        heapFullAndBack();
        stackAfterEveryAnswer();
        nodeCountAfterEveryAnswer();
        growingBetweenRuns();
        repeated();
        Check.end();
    }

    private static void badShapes() {
        StreamFusion x = new StreamFusion(256);
        refusedInBothModes("an empty stack", x);
        x.range(3, 2);
        x.range(0, 1);
        refusedInBothModes("two closed fragments", x);
        x.inner(0, 1);
        refusedInBothModes("three fragments", x);
        Check.fillUp(x, 3);
        refusedInBothModes("sixteen fragments", x);

        StreamFusion y = new StreamFusion(256);
        y.inner(0, 2);
        refusedInBothModes("one open fragment", y);
        y.map(StreamFusion.F_ADD, 1);
        refusedInBothModes("one open fragment with a map", y);
        y.take(0);
        refusedInBothModes("one open fragment that is empty for any element", y);
        y.range(0, 2);
        y.zip(StreamFusion.B_SND);
        refusedInBothModes("a zip with an open A", y);
        y.range(0, 2);
        y.concatMap();
        refusedInBothModes("a concatMap with an open O", y);
        y.range(0, 2);
        refusedInBothModes("an open fragment below a closed one", y);

        StreamFusion z = new StreamFusion(256);
        z.range(0, 2);
        z.inner(0, 2);
        refusedInBothModes("a closed fragment below an open one", z);
        z.zip(StreamFusion.B_FST);
        refusedInBothModes("a zip with an open B", z);
        z.clear();
        refusedInBothModes("a cleared stack", z);
    }

    private static void refusedInBothModes(String what, StreamFusion x) {
        Check.refused("run(FUSED) of " + what, x, StreamFusion.BAD_SHAPE, () -> x.run(StreamFusion.FUSED));
        Check.refused("run(MATERIAL) of " + what, x, StreamFusion.BAD_SHAPE, () -> x.run(StreamFusion.MATERIAL));
        refusedForTheMode(what, x);
    }

    /** A wrong mode is refused for the mode in every shape, so also where the shape is bad. */
    private static void refusedForTheMode(String what, StreamFusion x) {
        for (int mode : WRONG_MODES) {
            Check.refused("run(" + mode + ") of " + what, x, StreamFusion.BAD_MODE, () -> x.run(mode));
        }
    }

    private static void badModes() {
        StreamFusion x = new StreamFusion(8);
        x.range(3, 4);
        refusedForTheMode("one closed fragment, never run", x);
        Check.noResult("after refused runs alone", x);
        x.map(StreamFusion.F_ADD, 1);
        x.map(StreamFusion.F_ADD, 1);
        refusedForTheMode("a pipeline beyond the heap", x);
        Check.list("the pipeline", x, 5, 6, 7, 8);
        refusedForTheMode("a pipeline with a result", x);
    }

    private static void refusalsKeepThePreviousResult() {
        afterEveryRefusal("a MATERIAL result", "2 3 4 0 cells 2", x -> {
            x.range(3, 2);
            x.run(StreamFusion.MATERIAL);
        });
        afterEveryRefusal("a FUSED result", "2 3 4 0 cells 0", x -> {
            x.range(3, 2);
            x.run(StreamFusion.FUSED);
        });
        afterEveryRefusal("an empty MATERIAL result", "0 0 0 0 cells 6", x -> {
            x.range(3, 6);
            x.take(0);
            x.run(StreamFusion.MATERIAL);
        });
        afterEveryRefusal("HEAP_FULL", "0 0 0 0 cells 0", x -> {
            x.range(3, 6);
            x.map(StreamFusion.F_ADD, 0);
            x.run(StreamFusion.FUSED);
            x.run(StreamFusion.MATERIAL);
        });
        afterEveryRefusal("no run", "0 0 0 0 cells 0", x -> x.range(3, 2));
    }

    private static void afterEveryRefusal(String what, String result, Consumer<StreamFusion> before) {
        StreamFusion x = new StreamFusion(8);
        before.accept(x);
        same(what, x, result);
        refusedForTheMode("one fragment with " + what, x);
        same(what + " after BAD_MODE", x, result);
        x.inner(0, 1);
        refusedInBothModes("two fragments with " + what, x);
        same(what + " after BAD_SHAPE of two", x, result);
        x.zip(StreamFusion.B_FST);
        refusedInBothModes("an open fragment with " + what, x);
        same(what + " after BAD_SHAPE of an open one", x, result);
    }

    private static void same(String what, StreamFusion x, String result) {
        String told = x.outCount() + " " + x.out(0) + " " + x.out(1) + " " + x.out(2) + " cells " + x.cellsUsed();
        Check.due(what, told, result);
    }

    private static void fused() {
        StreamFusion x = new StreamFusion(8);
        x.range(1, 0);
        Check.list("FUSED of an empty list", x);
        x.clear();
        x.range(-2, 5);
        Check.list("out(0) is the first", x, -2, -1, 0, 1, 2);
        x.range(0, 6);
        x.concatMap();
        x.filter(StreamFusion.P_EQ, 5);
        Check.list("FUSED knows no heap", x, 5, 5, 5, 5, 5);
    }

    private static void material() {
        StreamFusion x = new StreamFusion(26);
        x.range(1, 4);
        x.inner(10, 2);
        x.concatMap();
        x.filter(StreamFusion.P_ODD, 0);
        x.range(100, 6);
        x.zip(StreamFusion.B_ADD);
        x.scan(StreamFusion.B_ADD, 0);
        x.take(5);
        Check.both("the pipeline of the first shared run", x, 26, 111, 225);
        StreamFusion e = new StreamFusion(8);
        e.range(1, 0);
        Check.both("an empty list", e, 0);
    }

    private static void heapExactlyUsed() {
        for (int heap : new int[] {8, 9, 77, 78, 79, 100, 255, 256}) {
            StreamFusion x = new StreamFusion(heap);
            Check.buildCost(x, heap);
            Check.due("C == H == " + heap, x.run(StreamFusion.MATERIAL), StreamFusion.OK);
            Check.due("cellsUsed() at C == H == " + heap, x.cellsUsed(), heap);
            String material = Check.state(x).replace("cells " + heap + " ", "cells 0 ");
            x.run(StreamFusion.FUSED);
            Check.due("the values at C == H == " + heap, material, Check.state(x));
            Check.due("there are values at C == H == " + heap, x.outCount() > 0, true);
            x.clear();
            Check.buildCost(x, heap + 1);
            Check.heapFull("C == H + 1 == " + (heap + 1), x);
            x.clear();
            Check.buildCost(x, heap - 1);
            Check.cost("C == H - 1 == " + (heap - 1), x, heap - 1);
        }
    }

    private static void heapFullEmptiesTheResult() {
        StreamFusion x = new StreamFusion(8);
        x.range(1, 6);
        x.drop(4);
        Check.both("cost 8 of 8", x, 8, 5, 6);
        x.take(1);
        Check.heapFull("cost 9 of 8 after MATERIAL", x);
        Check.heapFull("cost 9 of 8 after HEAP_FULL", x);
        Check.list("FUSED after HEAP_FULL", x, 5);
        Check.heapFull("cost 9 of 8 after FUSED", x);
        Check.refused("run(2) after HEAP_FULL", x, StreamFusion.BAD_MODE, () -> x.run(2));
        x.range(0, 1);
        Check.refused("run of two after HEAP_FULL", x, StreamFusion.BAD_SHAPE, () -> x.run(StreamFusion.FUSED));
        Check.noResult("after these refusals", x);
    }

    private static void heapFullAndBack() {
        StreamFusion x = new StreamFusion(8);
        x.range(1, 6);
        x.take(3);
        Check.heapFull("cost 9 of 8", x);
        x.clear();
        x.range(1, 6);
        x.take(2);
        Check.both("cost 8 of 8", x, 8, 1, 2);
    }

    private static void stackAfterEveryAnswer() {
        StreamFusion x = new StreamFusion(8);
        everyRun(x);
        x.range(1, 3);
        everyRun(x, "1/0/c");
        x.inner(0, 6);
        everyRun(x, "1/0/c", "1/0/o");
        x.concatMap();
        everyRun(x, "3/1/c");
        Check.heapFull("cost 15 of 8", x);
        x.inner(0, 1);
        x.take(2);
        everyRun(x, "3/1/c", "2/0/o");
        x.concatMap();
        everyRun(x, "6/2/c");
        x.inner(0, 1);
        x.zip(StreamFusion.B_ADD);
        everyRun(x, "8/2/o");
        Check.fillUp(x, 8);
        everyRun(x, "8/2/o", "1/0/c", "1/0/c", "1/0/c", "1/0/c", "1/0/c", "1/0/c", "1/0/c", "1/0/c");
    }

    private static void everyRun(StreamFusion x, String... stack) {
        for (int mode = -1; mode <= 2; mode++) {
            int answer = x.run(mode);
            Check.stack("after run(" + mode + ") with answer " + answer, x, stack);
        }
    }

    /** If a run added a node or lost one, the sixteenth node would come too late or too early. */
    private static void nodeCountAfterEveryAnswer() {
        StreamFusion x = new StreamFusion(8);
        for (int n = 1; n <= 16; n++) {
            Check.due("node " + n, n == 1 ? x.range(1, 3) : x.take(3), StreamFusion.OK);
            for (int mode = -1; mode <= 2; mode++) {
                x.run(mode);
                Check.due("N after run(" + mode + ")", Check.nodes(x), n);
            }
        }
        Check.due("node 17", x.take(3), StreamFusion.FULL);
        x.clear();
        for (int n = 1; n <= 16; n++) {
            Check.due("fragment " + n, x.inner(1, 3), StreamFusion.OK);
            x.run(StreamFusion.FUSED);
            x.run(StreamFusion.MATERIAL);
        }
        Check.due("fragment 17", x.inner(1, 3), StreamFusion.FULL);
    }

    private static void growingBetweenRuns() {
        StreamFusion x = new StreamFusion(256);
        x.range(1, 3);
        Check.both("range", x, 3, 1, 2, 3);
        x.inner(0, 6);
        x.run(StreamFusion.FUSED);
        x.concatMap();
        Check.both("concatMap", x, 15, 1, 2, 3, 3, 4, 5);
        x.inner(0, 1);
        x.run(StreamFusion.MATERIAL);
        x.concatMap();
        Check.both("concatMap again", x, 15 + 4 + 4, 1, 3, 3, 5);
        x.take(3);
        Check.both("take", x, 26, 1, 3, 3);
    }

    private static void repeated() {
        StreamFusion x = new StreamFusion(23);
        x.range(1, 3);
        x.inner(0, 6);
        x.concatMap();
        x.inner(0, 1);
        x.concatMap();
        for (int round = 0; round < 3; round++) {
            Check.list("FUSED in round " + round, x, 1, 3, 3, 5);
            Check.list("FUSED again in round " + round, x, 1, 3, 3, 5);
            Check.cost("MATERIAL in round " + round, x, 23);
            String first = Check.state(x);
            Check.cost("MATERIAL again in round " + round, x, 23);
            Check.due("the result of MATERIAL again", Check.state(x), first);
        }
        x.take(1);
        for (int round = 0; round < 3; round++) {
            Check.heapFull("HEAP_FULL in round " + round, x);
            Check.heapFull("HEAP_FULL again in round " + round, x);
            Check.list("FUSED between in round " + round, x, 1);
        }
    }
}
