/** Long runs of calls, each answer and the state after it held against the model. */
final class ModelTest {
    private static final int[] EDGES = {Integer.MIN_VALUE, Integer.MIN_VALUE + 1, -7, -1, 0, 7, 255, Integer.MAX_VALUE - 2, Integer.MAX_VALUE};
    private static final int[] HEAPS = {-5, 8, 20, 40, 80, 160, 256, 999};
    private static long seed = 20261115L;

    public static void main(String[] args) {
        int[] answers = new int[8];
        int longest = 0;
        for (int object = 0; object < 6000; object++) {
            int heap = HEAPS[below(HEAPS.length)];
            StreamFusion x = new StreamFusion(heap);
            Model m = new Model(heap);
            StringBuilder calls = new StringBuilder("new StreamFusion(" + heap + ")");
            int many = 10 + below(50);
            for (int i = 0; i < many; i++) {
                answers[call(x, m, calls)]++;
                Check.due("the state after " + calls, Check.state(x), m.state());
                longest = Math.max(longest, x.outCount());
                if (Check.anyWrong()) {
                    // Model and object differ from here on: more rows would tell nothing new.
                    Check.end();
                }
            }
        }
        for (int answer = 0; answer < answers.length; answer++) {
            Check.due("answer " + answer + " came often", answers[answer] > 100, true);
        }
        Check.due("long lists came", longest > 100, true);
        Check.end();
    }

    /** One call on both; runs come more often where they can succeed. */
    private static int call(StreamFusion x, Model m, StringBuilder calls) {
        int which = below(40);
        int op = below(25) == 0 ? number() : below(9);
        int k = number();
        int got;
        int want;
        String call;
        if (which < 6) {
            int len = below(4) == 0 ? number() : 1 + below(6);
            call = "range(" + k + ", " + len + ")";
            got = x.range(k, len);
            want = m.range(k, len);
        } else if (which < 12) {
            int cap = below(4) == 0 ? number() : 3 + below(4);
            call = "inner(" + k + ", " + cap + ")";
            got = x.inner(k, cap);
            want = m.inner(k, cap);
        } else if (which < 14) {
            call = "map(" + op + ", " + k + ")";
            got = x.map(op, k);
            want = m.map(op, k);
        } else if (which < 16) {
            call = "filter(" + op + ", " + k + ")";
            got = x.filter(op, k);
            want = m.filter(op, k);
        } else if (which < 17) {
            call = "take(" + k + ")";
            got = x.take(k);
            want = m.take(k);
        } else if (which < 18) {
            call = "drop(" + k + ")";
            got = x.drop(k);
            want = m.drop(k);
        } else if (which < 20) {
            call = "scan(" + op + ", " + k + ")";
            got = x.scan(op, k);
            want = m.scan(op, k);
        } else if (which < 23) {
            call = "zip(" + op + ")";
            got = x.zip(op);
            want = m.zip(op);
        } else if (which < 30) {
            call = "concatMap()";
            got = x.concatMap();
            want = m.concatMap();
        } else if (which < 39) {
            int mode = below(20) == 0 ? number() : below(2);
            call = "run(" + mode + ")";
            got = x.run(mode);
            want = m.run(mode);
        } else if (m.nodes() == 16 || below(4) == 0) {
            call = "clear()";
            x.clear();
            m.clear();
            got = 0;
            want = 0;
        } else {
            call = "range(1, 6)";
            got = x.range(1, 6);
            want = m.range(1, 6);
        }
        calls.append("; ").append(call);
        Check.due(calls.toString(), got, want);
        return want;
    }

    private static int number() {
        return below(6) == 0 ? EDGES[below(EDGES.length)] : below(20) - 6;
    }

    /** A fixed sequence: the same calls every time. */
    private static int below(int bound) {
        seed = seed * 6364136223846793005L + 1442695040888963407L;
        return (int) ((seed >>> 33) % bound);
    }
}
