/** Promise 2: range. */
final class Promise02RangeTest {
    private static final int MAX = Integer.MAX_VALUE;
    private static final int MIN = Integer.MIN_VALUE;

    public static void main(String[] args) {
        values(5, 3, 5, 6, 7);
        values(-2, 4, -2, -1, 0, 1);
        values(5, 1, 5);
        values(5, 0);
        values(5, -1);
        values(5, MIN);
        values(5, 6, 5, 6, 7, 8, 9, 10);
        values(5, 7, 5, 6, 7, 8, 9, 10);
        values(5, MAX, 5, 6, 7, 8, 9, 10);
        values(MAX, 3, MAX, MIN, MIN + 1);
        values(MAX - 1, 2, MAX - 1, MAX);
        values(MIN, 2, MIN, MIN + 1);
        everyLengthNearTheGreatestStart();
        pushes();
        fragmentsBelowKeepTheirLists();
        fullInEveryShape();
        Check.end();
    }

    private static void values(int start, int len, int... want) {
        StreamFusion x = new StreamFusion(256);
        String call = "range(" + start + ", " + len + ")";
        Check.due(call, x.range(start, len), StreamFusion.OK);
        Check.stack(call, x, "1/0/c");
        Check.list(call, x, want);
        Check.cost(call, x, want.length);
    }

    private static void pushes() {
        StreamFusion x = new StreamFusion(256);
        x.inner(1, 1);
        x.map(StreamFusion.F_NEG, 0);
        x.range(3, 3);
        x.take(1);
        x.take(1);
        Check.due("range", x.range(9, 9), StreamFusion.OK);
        Check.stack("range on two fragments", x, "2/0/o", "3/0/c", "1/0/c");
        Check.fillUp(x, 6);
        Check.refused("range as node 17", x, StreamFusion.FULL, () -> x.range(0, 0));
        Check.refused("range as node 17", x, StreamFusion.FULL, () -> x.range(0, -1));
        x.clear();
        Check.due("range after clear", x.range(4, 2), StreamFusion.OK);
        Check.list("range after clear", x, 4, 5);
    }

    private static void everyLengthNearTheGreatestStart() {
        for (int before = 0; before <= 6; before++) {
            for (int len = -2; len <= 8; len++) {
                int[] want = new int[Math.max(0, Math.min(6, len))];
                for (int i = 0; i < want.length; i++) {
                    want[i] = i <= before ? MAX - before + i : MIN + (i - before - 1);
                }
                values(MAX - before, len, want);
            }
        }
    }

    private static void fragmentsBelowKeepTheirLists() {
        StreamFusion x = new StreamFusion(256);
        x.range(10, 3);
        x.range(20, 2);
        x.map(StreamFusion.F_ADD, 1);
        x.range(99, 6);
        Check.stack("range on two fragments", x, "1/0/c", "2/0/c", "1/0/c");
        x.zip(StreamFusion.B_FST);
        x.zip(StreamFusion.B_SUB);
        Check.list("the lists below range", x, 10 - 21, 11 - 22);
    }

    /** FULL goes by the nodes, not by the fragments: joined nodes still count. */
    private static void fullInEveryShape() {
        StreamFusion one = new StreamFusion(256);
        one.range(1, 2);
        for (int n = 1; n < 15; n++) {
            one.map(StreamFusion.F_ADD, 1);
        }
        Check.due("range as node 16", one.range(1, 1), StreamFusion.OK);
        Check.refused("range as node 17 on two fragments", one, StreamFusion.FULL, () -> one.range(1, 1));

        StreamFusion zipped = new StreamFusion(256);
        zipped.range(0, 6);
        for (int n = 1; n < 15; n += 2) {
            Check.due("range as node " + (n + 1), zipped.range(n, 6), StreamFusion.OK);
            Check.due("zip as node " + (n + 2), zipped.zip(StreamFusion.B_ADD), StreamFusion.OK);
        }
        Check.stack("eight ranges in seven zips", zipped, "15/0/c");
        zipped.take(2);
        Check.refused("range as node 17 on one fragment", zipped, StreamFusion.FULL, () -> zipped.range(1, 1));
        Check.list("the one fragment", zipped, 49, 57);

        StreamFusion many = new StreamFusion(256);
        Check.fillUp(many, 0);
        Check.refused("range as fragment 17", many, StreamFusion.FULL, () -> many.range(MAX, MAX));
    }
}
