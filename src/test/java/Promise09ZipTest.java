/** Promise 9: zip. */
final class Promise09ZipTest {
    private static final int MAX = Integer.MAX_VALUE;
    private static final int MIN = Integer.MIN_VALUE;

    public static void main(String[] args) {
        table();
        lengths();
        order();
        shape();
        inner();
        fragmentsBelow();
        lastNode();
        refusedLeavesTheFragments();
        Check.end();
    }

    private static void table() {
        values(StreamFusion.B_ADD, 1, 10, 11, 13, 15);
        values(StreamFusion.B_ADD, MAX, 1, MIN, MIN + 2, MIN + 4);
        values(StreamFusion.B_SUB, 1, 10, -9, -9, -9);
        values(StreamFusion.B_SUB, MIN, 1, MAX, MAX, MAX);
        values(StreamFusion.B_MUL, 1, 10, 10, 22, 36);
        values(StreamFusion.B_MIN, 1, 2, 1, 2, 3);
        values(StreamFusion.B_MIN, 2, 1, 1, 2, 3);
        values(StreamFusion.B_MAX, 1, 2, 2, 3, 4);
        values(StreamFusion.B_MAX, 2, 1, 2, 3, 4);
        values(StreamFusion.B_FST, 1, 10, 1, 2, 3);
        values(StreamFusion.B_SND, 1, 10, 10, 11, 12);
    }

    /** zip(op) of range(a, 3), the lower fragment, and range(b, 3), the top one. */
    private static void values(int op, int a, int b, int... want) {
        StreamFusion x = new StreamFusion(256);
        String call = "zip(" + op + ") of range(" + a + ", 3) and range(" + b + ", 3)";
        x.range(a, 3);
        x.range(b, 3);
        Check.due(call, x.zip(op), StreamFusion.OK);
        Check.stack(call, x, "3/0/c");
        Check.list(call, x, want);
        Check.cost(call, x, 9);
    }

    private static void lengths() {
        for (int a = 0; a <= 6; a++) {
            for (int b = 0; b <= 6; b++) {
                StreamFusion x = new StreamFusion(256);
                x.range(0, a);
                x.range(0, b);
                x.zip(StreamFusion.B_ADD);
                int[] want = new int[Math.min(a, b)];
                for (int i = 0; i < want.length; i++) {
                    want[i] = 2 * i;
                }
                Check.list("zip of lengths " + a + " and " + b, x, want);
                Check.cost("zip of lengths " + a + " and " + b, x, a + b + want.length);
            }
        }
    }

    private static void order() {
        StreamFusion x = new StreamFusion(256);
        for (int depth = 0; depth < 2; depth++) {
            Check.refused("zip(-1) at depth " + depth, x, StreamFusion.BAD_OP, () -> x.zip(-1));
            Check.refused("zip(7) at depth " + depth, x, StreamFusion.BAD_OP, () -> x.zip(7));
            Check.refused("zip(MIN) at depth " + depth, x, StreamFusion.BAD_OP, () -> x.zip(MIN));
            Check.refused("zip(MAX) at depth " + depth, x, StreamFusion.BAD_OP, () -> x.zip(MAX));
            for (int op : new int[] {0, 1, 2, 3, 4, 5, 6}) {
                Check.refused("zip(" + op + ") at depth " + depth, x, StreamFusion.UNDERFLOW, () -> x.zip(op));
            }
            x.range(0, 1);
        }
        Check.fillUp(x, 2);
        Check.refused("zip(7) when full", x, StreamFusion.BAD_OP, () -> x.zip(7));
        Check.refused("zip(6) when full", x, StreamFusion.FULL, () -> x.zip(6));

        StreamFusion one = new StreamFusion(256);
        one.range(0, 1);
        for (int i = 0; i < 15; i++) {
            one.map(StreamFusion.F_ADD, 1);
        }
        Check.refused("zip(0) of one full fragment", one, StreamFusion.UNDERFLOW, () -> one.zip(0));
        Check.list("the full fragment", one, 15);
    }

    private static void shape() {
        opens(false, false, "2/0/o", "5/0/c");
        opens(false, true, "2/0/o", "5/0/o");
        opens(true, false, "2/0/o", "5/0/o");
        opens(true, true, "2/0/o", "5/0/o");

        StreamFusion x = new StreamFusion(256);
        x.range(0, 2);
        x.range(0, 2);
        x.range(0, 2);
        x.concatMap();
        x.concatMap();
        x.range(0, 2);
        x.range(0, 2);
        x.concatMap();
        x.take(4);
        Check.stack("before zip", x, "5/2/c", "4/1/c");
        Check.due("zip of two concat counts", x.zip(StreamFusion.B_ADD), StreamFusion.OK);
        Check.stack("zip of two concat counts", x, "10/3/c");
        Check.list("zip of two concatMaps", x, 0, 2, 0, 2);
    }

    private static void opens(boolean a, boolean b, String... want) {
        StreamFusion x = new StreamFusion(256);
        x.inner(0, 1);
        x.take(1);
        source(x, a);
        x.take(2);
        x.take(2);
        source(x, b);
        Check.due("zip", x.zip(StreamFusion.B_ADD), StreamFusion.OK);
        Check.stack("zip with A " + (a ? "open" : "closed") + " and B " + (b ? "open" : "closed"), x, want);
    }

    private static void source(StreamFusion x, boolean open) {
        if (open) {
            x.inner(0, 3);
        } else {
            x.range(0, 3);
        }
    }

    /** Free sources on both sides stay free and get the same element; the lists are paired for each element anew. */
    private static void inner() {
        StreamFusion x = new StreamFusion(256);
        x.range(1, 3);
        x.inner(0, 6);
        x.inner(100, 2);
        x.zip(StreamFusion.B_ADD);
        Check.stack("zip of free sources", x, "1/0/c", "3/0/o");
        x.concatMap();
        Check.stack("the concatMap over them", x, "5/1/c");
        Check.list("zip of free sources", x, 102, 104, 106);
        Check.cost("zip of free sources", x, 3 + 6 + 3 + 3 + 3);

        StreamFusion y = new StreamFusion(256);
        y.range(1, 3);
        y.inner(0, 6);
        y.range(10, 2);
        y.zip(StreamFusion.B_SUB);
        y.concatMap();
        Check.list("zip of a free source and a range", y, -9, -8, -8, -7, -7);
        Check.cost("zip of a free source and a range", y, 3 + 6 + 6 + 5 + 5);
    }

    private static void fragmentsBelow() {
        StreamFusion x = new StreamFusion(256);
        x.inner(9, 9);
        x.range(10, 3);
        x.map(StreamFusion.F_MUL, 2);
        x.range(1, 2);
        x.range(5, 6);
        Check.due("zip on four fragments", x.zip(StreamFusion.B_MUL), StreamFusion.OK);
        Check.stack("zip on four fragments", x, "1/0/o", "2/0/c", "3/0/c");
        Check.due("zip on three fragments", x.zip(StreamFusion.B_SUB), StreamFusion.OK);
        Check.stack("zip on three fragments", x, "1/0/o", "6/0/c");
        Check.due("zip on two fragments", x.zip(StreamFusion.B_SND), StreamFusion.OK);
        Check.stack("zip on two fragments", x, "8/0/o");
        x.clear();
        x.range(10, 3);
        x.map(StreamFusion.F_MUL, 2);
        x.range(1, 2);
        x.range(5, 6);
        x.zip(StreamFusion.B_MUL);
        x.zip(StreamFusion.B_SUB);
        Check.both("the list below", x, 6 + 2 + 6 + 2 + 2, 20 - 5, 22 - 12);
    }

    private static void lastNode() {
        StreamFusion x = new StreamFusion(256);
        x.range(1, 2);
        x.range(3, 2);
        for (int n = 2; n < 15; n++) {
            x.map(StreamFusion.F_ADD, 0);
        }
        Check.due("zip as node 16", x.zip(StreamFusion.B_ADD), StreamFusion.OK);
        Check.stack("zip as node 16", x, "16/0/c");
        Check.list("zip as node 16", x, 4, 6);
        x.clear();
        x.range(1, 2);
        x.range(3, 2);
        for (int n = 2; n < 16; n++) {
            x.map(StreamFusion.F_ADD, 0);
        }
        Check.refused("zip as node 17", x, StreamFusion.FULL, () -> x.zip(StreamFusion.B_ADD));
        Check.refused("zip(7) as node 17", x, StreamFusion.BAD_OP, () -> x.zip(7));
    }

    private static void refusedLeavesTheFragments() {
        StreamFusion x = new StreamFusion(256);
        x.range(1, 3);
        Check.refused("zip of one", x, StreamFusion.UNDERFLOW, () -> x.zip(StreamFusion.B_ADD));
        Check.both("the one fragment", x, 3, 1, 2, 3);
        x.range(10, 3);
        Check.refused("zip(7) of two", x, StreamFusion.BAD_OP, () -> x.zip(7));
        Check.refused("zip(-1) of two", x, StreamFusion.BAD_OP, () -> x.zip(-1));
        x.zip(StreamFusion.B_SUB);
        Check.both("the two fragments", x, 9, -9, -9, -9);
    }
}
