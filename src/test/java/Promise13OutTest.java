/** Promise 13: outCount and out. */
final class Promise13OutTest {
    private static final int MAX = Integer.MAX_VALUE;
    private static final int MIN = Integer.MIN_VALUE;
    private static final int[] FAR = {MIN, MIN + 1, -257, -256, -217, -216, -2, -1, 216, 217, 255, 256, 257, 4096, 65536, MAX - 1, MAX};

    public static void main(String[] args) {
        fresh();
        everyCount();
        longest();
        shorterBehindLonger();
        afterHeapFull();
        afterClear();
        afterRefusedRuns();
        whileBuilding();
        valuesAsTheyAre();
        nothingChanges();
        Check.end();
    }

    /** The result is the given values, and 0 everywhere else. */
    private static void is(String what, StreamFusion x, int... want) {
        Check.due(what + ": outCount()", x.outCount(), want.length);
        for (int i = -2; i < 300; i++) {
            Check.due(what + ": out(" + i + ")", x.out(i), i >= 0 && i < want.length ? want[i] : 0);
        }
        for (int i : FAR) {
            Check.due(what + ": out(" + i + ")", x.out(i), 0);
        }
    }

    private static void fresh() {
        is("fresh", new StreamFusion(8));
        StreamFusion x = new StreamFusion(8);
        x.range(5, 6);
        is("built, but never run", x);
    }

    private static void everyCount() {
        for (int len = 0; len <= 6; len++) {
            StreamFusion x = new StreamFusion(8);
            x.range(5, len);
            int[] want = new int[len];
            for (int i = 0; i < len; i++) {
                want[i] = 5 + i;
            }
            x.run(StreamFusion.FUSED);
            is("FUSED of " + len, x, want);
            x.run(StreamFusion.MATERIAL);
            is("MATERIAL of " + len, x, want);
        }
    }

    private static int[] pushLongest(StreamFusion x) {
        x.range(1, 6);
        x.range(1, 6);
        x.concatMap();
        x.range(1, 6);
        x.concatMap();
        x.scan(StreamFusion.B_ADD, 0);
        int[] want = new int[216];
        for (int i = 0; i < 216; i++) {
            want[i] = (i == 0 ? 0 : want[i - 1]) + 1 + i % 6;
        }
        return want;
    }

    private static void longest() {
        StreamFusion x = new StreamFusion(256);
        int[] want = pushLongest(x);
        x.run(StreamFusion.FUSED);
        is("216 values", x, want);
        Check.due("out(215)", x.out(215), 36 * 21);
    }

    /** Nothing of a longer result may shine through behind a shorter one. */
    private static void shorterBehindLonger() {
        StreamFusion x = new StreamFusion(256);
        pushLongest(x);
        x.run(StreamFusion.FUSED);
        x.take(2);
        x.run(StreamFusion.FUSED);
        is("two behind 216", x, 1, 3);
        x.take(0);
        x.run(StreamFusion.FUSED);
        is("none behind two", x);
        x.clear();
        x.range(9, 1);
        x.run(StreamFusion.MATERIAL);
        is("one after clear()", x, 9);
    }

    private static void afterHeapFull() {
        StreamFusion x = new StreamFusion(8);
        x.range(5, 4);
        x.run(StreamFusion.MATERIAL);
        is("MATERIAL", x, 5, 6, 7, 8);
        x.map(StreamFusion.F_ADD, 1);
        x.run(StreamFusion.MATERIAL);
        is("MATERIAL of cost 8", x, 6, 7, 8, 9);
        x.take(1);
        Check.due("run(MATERIAL)", x.run(StreamFusion.MATERIAL), StreamFusion.HEAP_FULL);
        is("HEAP_FULL", x);
        x.run(StreamFusion.FUSED);
        is("FUSED after HEAP_FULL", x, 6);
        x.run(StreamFusion.MATERIAL);
        is("HEAP_FULL after FUSED", x);
    }

    private static void afterClear() {
        StreamFusion x = new StreamFusion(256);
        pushLongest(x);
        x.run(StreamFusion.FUSED);
        x.clear();
        is("clear() after 216 values", x);
        x.clear();
        is("clear() again", x);
    }

    private static void afterRefusedRuns() {
        StreamFusion x = new StreamFusion(8);
        x.run(StreamFusion.FUSED);
        is("BAD_SHAPE when fresh", x);
        x.run(2);
        is("BAD_MODE when fresh", x);
        x.range(5, 3);
        x.run(StreamFusion.FUSED);
        x.run(-1);
        is("BAD_MODE after FUSED", x, 5, 6, 7);
        x.inner(0, 1);
        x.run(StreamFusion.FUSED);
        is("BAD_SHAPE after FUSED", x, 5, 6, 7);
        x.run(StreamFusion.MATERIAL);
        is("BAD_SHAPE of MATERIAL after FUSED", x, 5, 6, 7);
        x.zip(StreamFusion.B_ADD);
        x.run(StreamFusion.MATERIAL);
        is("BAD_SHAPE of an open fragment after FUSED", x, 5, 6, 7);
        x.clear();
        x.run(StreamFusion.MATERIAL);
        is("BAD_SHAPE after clear()", x);
        x.range(5, 6);
        x.map(StreamFusion.F_ADD, 1);
        x.run(StreamFusion.FUSED);
        x.run(StreamFusion.MATERIAL);
        x.run(7);
        is("BAD_MODE after HEAP_FULL", x);
        x.range(5, 6);
        x.run(StreamFusion.FUSED);
        is("BAD_SHAPE after HEAP_FULL", x);
    }

    private static void whileBuilding() {
        StreamFusion x = new StreamFusion(256);
        int[] want = pushLongest(x);
        x.run(StreamFusion.FUSED);
        x.take(1);
        is("take behind 216 values, not run", x, want);
        x.range(1, 1);
        x.zip(StreamFusion.B_ADD);
        is("zip behind 216 values, not run", x, want);
        x.concatMap();
        x.map(99, 0);
        is("refused calls behind 216 values", x, want);
    }

    private static void valuesAsTheyAre() {
        StreamFusion x = new StreamFusion(8);
        x.range(-1, 3);
        x.run(StreamFusion.FUSED);
        is("a 0 among the values", x, -1, 0, 1);
        x.clear();
        x.range(MAX - 1, 4);
        x.run(StreamFusion.FUSED);
        is("the greatest and the least", x, MAX - 1, MAX, MIN, MIN + 1);
    }

    private static void nothingChanges() {
        StreamFusion x = new StreamFusion(8);
        x.range(5, 3);
        x.run(StreamFusion.MATERIAL);
        String before = Check.state(x);
        for (int i : FAR) {
            x.out(i);
            x.outCount();
            Check.due("the state after out(" + i + ")", Check.state(x), before);
        }
        for (int i = 0; i < 3; i++) {
            x.out(i);
            Check.due("the state after out(" + i + ")", Check.state(x), before);
        }
        x.take(1);
        x.run(StreamFusion.MATERIAL);
        is("the next run", x, 5);
    }
}
