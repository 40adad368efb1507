/** 'Length bound': the longest lists that can be built, and that nothing gets beyond them. */
final class LengthBoundTest {
    private static final int MAX = Integer.MAX_VALUE;

    public static void main(String[] args) {
        sources();
        oneConcatMap();
        twoConcatMaps();
        twoConcatMapsOverInnerSources();
        everyTransformerOfTheLongestList();
        zipOfTheLongestLists();
        longestInnerParts();
        noConcatMapBeyond();
        Check.end();
    }

    private static void sources() {
        for (int len : new int[] {6, 7, 36, 216, 256, MAX}) {
            StreamFusion x = new StreamFusion(256);
            x.range(0, len);
            Check.both("range(0, " + len + ")", x, 6, 0, 1, 2, 3, 4, 5);
            x.clear();
            x.range(6, 1);
            x.inner(0, len);
            x.concatMap();
            Check.both("inner(0, " + len + ") given 6", x, 13, 6, 7, 8, 9, 10, 11);
        }
    }

    private static void oneConcatMap() {
        int[] want = new int[36];
        for (int i = 0; i < 36; i++) {
            want[i] = 10 + i % 6;
        }
        StreamFusion ranges = new StreamFusion(256);
        ranges.range(0, 6);
        ranges.range(10, 6);
        ranges.concatMap();
        Check.both("36 of two ranges", ranges, 6 + 36 + 36, want);

        for (int i = 0; i < 36; i++) {
            want[i] = 7 * (i / 6) + 6 + i % 6;
        }
        StreamFusion inner = new StreamFusion(256);
        sixLong(inner, true);
        inner.inner(0, 6);
        inner.concatMap();
        Check.both("36 of a range and a source", inner, 18 + 36 + 36, want);
    }

    /** Values that give every inner(.., 6) its six elements. */
    private static void sixLong(StreamFusion x, boolean push) {
        if (push) {
            x.range(0, 6);
        }
        x.map(StreamFusion.F_MUL, 7);
        x.map(StreamFusion.F_ADD, 6);
    }

    private static void twoConcatMaps() {
        int[] want = new int[216];
        for (int i = 0; i < 216; i++) {
            want[i] = 30 + i % 6;
        }
        StreamFusion left = new StreamFusion(256);
        left.range(10, 6);
        left.range(20, 6);
        left.concatMap();
        left.range(30, 6);
        left.concatMap();
        Check.list("216, the first concatMap in O", left, want);
        Check.heapFull("216, the first concatMap in O", left);
        StreamFusion right = new StreamFusion(256);
        right.range(10, 6);
        right.range(20, 6);
        right.range(30, 6);
        right.concatMap();
        right.concatMap();
        Check.list("216, the first concatMap in I", right, want);
        Check.heapFull("216, the first concatMap in I", right);
    }

    private static void twoConcatMapsOverInnerSources() {
        int[] want = new int[216];
        for (int i = 0; i < 216; i++) {
            int outer = 7 * (i / 36) + 6;
            int middle = 7 * (outer + i / 6 % 6) + 6;
            want[i] = middle + i % 6;
        }
        StreamFusion left = new StreamFusion(256);
        sixLong(left, true);
        left.inner(0, 6);
        left.concatMap();
        sixLong(left, false);
        left.inner(0, 6);
        left.concatMap();
        Check.stack("216 of sources, in O", left, "9/2/c");
        Check.list("216 of sources, in O", left, want);

        StreamFusion right = new StreamFusion(256);
        sixLong(right, true);
        right.inner(0, 6);
        sixLong(right, false);
        right.inner(0, 6);
        right.concatMap();
        right.concatMap();
        Check.stack("216 of sources, in I", right, "9/2/c");
        Check.list("216 of sources, in I", right, want);
    }

    /** Pushes five nodes whose list is 0, 1, .., 5 thirty-six times. */
    private static void pushLongest(StreamFusion x) {
        x.range(1, 6);
        x.range(2, 6);
        x.range(0, 6);
        x.concatMap();
        x.concatMap();
    }

    private static int[] longest(int from, int end) {
        int[] part = new int[end - from];
        for (int i = from; i < end; i++) {
            part[i - from] = i % 6;
        }
        return part;
    }

    private static void everyTransformerOfTheLongestList() {
        StreamFusion x = new StreamFusion(256);
        pushLongest(x);
        x.map(StreamFusion.F_ADD, 0);
        Check.list("map of 216", x, longest(0, 216));
        x.filter(StreamFusion.P_LT, 6);
        Check.list("filter of 216", x, longest(0, 216));
        x.scan(StreamFusion.B_SND, 9);
        Check.list("scan of 216", x, longest(0, 216));
        x.take(MAX);
        Check.list("take(MAX) of 216", x, longest(0, 216));
        x.take(216);
        Check.list("take(216) of 216", x, longest(0, 216));
        x.drop(-1);
        Check.list("drop(-1) of 216", x, longest(0, 216));
        x.drop(0);
        Check.list("drop(0) of 216", x, longest(0, 216));
        x.take(215);
        Check.list("take(215) of 216", x, longest(0, 215));
        x.drop(214);
        Check.list("drop(214) of 215", x, 4);
        Check.heapFull("a short list from long ones", x);
        x.clear();
        pushLongest(x);
        x.drop(216);
        Check.list("drop(216) of 216", x);
        x.clear();
        pushLongest(x);
        x.scan(StreamFusion.B_ADD, 0);
        x.drop(215);
        Check.list("the sum of 216", x, 36 * 15);
    }

    private static void zipOfTheLongestLists() {
        StreamFusion x = new StreamFusion(256);
        pushLongest(x);
        pushLongest(x);
        x.zip(StreamFusion.B_ADD);
        for (int i = 11; i < 16; i++) {
            x.map(StreamFusion.F_ADD, 1);
        }
        int[] want = longest(0, 216);
        for (int i = 0; i < want.length; i++) {
            want[i] = 2 * want[i] + 5;
        }
        Check.stack("zip of 216 and 216 in 16 nodes", x, "16/4/c");
        Check.list("zip of 216 and 216 in 16 nodes", x, want);
        Check.due("the last value", x.out(215), 15);
        Check.due("outCount()", x.outCount(), 216);
    }

    /** Inner parts with as many nodes as fit, each node with 216 values over all elements. */
    private static void longestInnerParts() {
        int[] want = new int[216];
        for (int i = 0; i < 216; i++) {
            want[i] = 11 + i % 6;
        }
        StreamFusion left = new StreamFusion(256);
        left.range(1, 6);
        left.range(1, 6);
        left.concatMap();
        left.range(0, 6);
        grow(left, 11);
        left.concatMap();
        Check.stack("the last I is long", left, "16/2/c");
        Check.list("the last I is long", left, want);

        StreamFusion right = new StreamFusion(256);
        right.range(1, 6);
        right.range(1, 6);
        right.range(0, 6);
        grow(right, 11);
        right.concatMap();
        right.concatMap();
        Check.stack("the first I is long", right, "16/2/c");
        Check.list("the first I is long", right, want);

        StreamFusion middle = new StreamFusion(256);
        middle.range(1, 6);
        middle.range(1, 6);
        middle.range(0, 6);
        middle.concatMap();
        grow(middle, 11);
        middle.concatMap();
        Check.stack("maps between the concatMaps", middle, "16/2/c");
        Check.list("maps between the concatMaps", middle, want);
    }

    private static void grow(StreamFusion x, int times) {
        for (int i = 0; i < times; i++) {
            Check.due("map", x.map(StreamFusion.F_ADD, 1), StreamFusion.OK);
        }
    }

    private static void noConcatMapBeyond() {
        StreamFusion x = new StreamFusion(256);
        pushLongest(x);
        x.range(0, 6);
        Check.refused("concatMap() over 216", x, StreamFusion.LIMIT, () -> x.concatMap());
        x.zip(StreamFusion.B_FST);
        x.take(0);
        x.range(0, 6);
        Check.refused("concatMap() over an empty list of count 2", x, StreamFusion.LIMIT, () -> x.concatMap());
        x.clear();
        x.range(0, 6);
        pushLongest(x);
        Check.refused("concatMap() with 216 as I", x, StreamFusion.LIMIT, () -> x.concatMap());
    }
}
