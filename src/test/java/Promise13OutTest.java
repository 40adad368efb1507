/** Promise 13: outCount and out. */
final class Promise13OutTest {
    private static final int[] FAR = {Integer.MIN_VALUE, -257, -256, -1, 256, 257, 4096, Integer.MAX_VALUE};

    public static void main(String[] args) {
        StreamFusion x = new StreamFusion(256);
        outside("fresh", x, 0);
        x.range(1, 6);
        x.range(1, 6);
        x.inner(5, 6);
        x.map(StreamFusion.F_SQ, 0);
        x.concatMap();
        x.concatMap();
        Check.due("run(FUSED)", x.run(StreamFusion.FUSED), StreamFusion.OK);
        Check.due("outCount() of 6 times 21", x.outCount(), 126);
        outside("of 126", x, 126);
        for (int i = 0; i < 126; i++) {
            Check.due("out(" + i + ") is not 0", x.out(i) != 0, true);
        }
        shorterResult(x);
        aZeroValue();
        Check.end();
    }

    /** Nothing of a longer result may shine through behind a shorter one. */
    private static void shorterResult(StreamFusion x) {
        x.take(2);
        Check.due("outCount() before the next run", x.outCount(), 126);
        Check.list("the first two", x, 36, 49);
        outside("of 2", x, 2);
        String before = Check.state(x);
        Check.due("the getters change nothing", Check.state(x), before);
        Check.due("run(MATERIAL)", x.run(StreamFusion.MATERIAL), StreamFusion.HEAP_FULL);
        outside("after HEAP_FULL", x, 0);
        x.run(StreamFusion.FUSED);
        Check.due("outCount() after FUSED", x.outCount(), 2);
        x.clear();
        outside("after clear", x, 0);
        Check.due("outCount() after clear", x.outCount(), 0);
    }

    private static void outside(String what, StreamFusion x, int count) {
        Check.due(what + ": outCount()", x.outCount(), count);
        for (int i : FAR) {
            Check.due(what + ": out(" + i + ")", x.out(i), 0);
        }
        for (int i = count; i < 256; i++) {
            Check.due(what + ": out(" + i + ")", x.out(i), 0);
        }
    }

    private static void aZeroValue() {
        StreamFusion x = new StreamFusion(256);
        x.range(-1, 3);
        Check.list("values around 0", x, -1, 0, 1);
    }
}
