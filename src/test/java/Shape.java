import java.util.function.Consumer;

/** Stacks of every kind that a test may want to go through: closed and open ones, one fragment and many, short and long lists. */
record Shape(String name, Consumer<StreamFusion> build) {
    static final Shape[] ALL = {
        new Shape("nothing", x -> { }),
        new Shape("an empty range", x -> x.range(0, 0)),
        new Shape("a range", x -> x.range(-3, 6)),
        new Shape("an open source", x -> x.inner(0, 3)),
        new Shape("two fragments", x -> {
            x.range(0, 1);
            x.range(0, 1);
        }),
        new Shape("two fragments, one open", x -> {
            x.range(0, 1);
            x.inner(0, 1);
        }),
        new Shape("a map", x -> {
            x.range(1, 6);
            x.map(StreamFusion.F_SQ, 0);
        }),
        new Shape("a filter of none", x -> {
            x.range(1, 6);
            x.filter(StreamFusion.P_DIVBY, 0);
        }),
        new Shape("a take and a drop", x -> {
            x.range(1, 6);
            x.take(4);
            x.drop(3);
        }),
        new Shape("a scan", x -> {
            x.range(Integer.MAX_VALUE - 2, 5);
            x.scan(StreamFusion.B_ADD, 1);
        }),
        new Shape("a zip", x -> {
            x.range(1, 6);
            x.range(10, 4);
            x.zip(StreamFusion.B_MUL);
        }),
        new Shape("an open zip", x -> {
            x.range(1, 6);
            x.inner(10, 4);
            x.zip(StreamFusion.B_MUL);
        }),
        new Shape("a concatMap", x -> {
            x.range(1, 6);
            x.inner(0, 6);
            x.concatMap();
        }),
        new Shape("a concatMap of nothing", x -> {
            x.range(1, 6);
            x.take(0);
            x.range(0, 6);
            x.concatMap();
        }),
        new Shape("an open concatMap", x -> {
            x.inner(1, 6);
            x.inner(0, 6);
            x.concatMap();
        }),
        new Shape("36 values", x -> {
            x.range(1, 6);
            x.range(1, 6);
            x.concatMap();
        }),
        new Shape("a concatMap in O", x -> {
            x.range(1, 3);
            x.inner(0, 6);
            x.concatMap();
            x.inner(5, 2);
            x.concatMap();
        }),
        new Shape("a concatMap in I", x -> {
            x.range(1, 3);
            x.inner(0, 6);
            x.inner(5, 2);
            x.concatMap();
            x.concatMap();
        }),
        new Shape("216 values", x -> {
            x.range(1, 6);
            x.range(1, 6);
            x.range(1, 6);
            x.concatMap();
            x.concatMap();
        }),
        new Shape("one of 216 values", x -> {
            x.range(1, 6);
            x.range(1, 6);
            x.range(1, 6);
            x.concatMap();
            x.concatMap();
            x.drop(215);
        }),
        new Shape("fifteen maps", x -> {
            x.range(1, 6);
            for (int n = 1; n < 16; n++) {
                x.map(StreamFusion.F_ADD, n);
            }
        }),
        new Shape("fifteen filters", x -> {
            x.range(1, 6);
            for (int n = 1; n < 16; n++) {
                x.filter(StreamFusion.P_NE, n);
            }
        }),
        new Shape("fifteen scans", x -> {
            x.range(1, 6);
            for (int n = 1; n < 16; n++) {
                x.scan(StreamFusion.B_SUB, n);
            }
        }),
        new Shape("takes and drops by turns", x -> {
            x.range(1, 6);
            for (int n = 1; n < 16; n++) {
                Check.due("a take or drop", n % 2 == 0 ? x.take(6) : x.drop(n == 9 ? 1 : -1), StreamFusion.OK);
            }
        }),
        new Shape("seven zips", x -> {
            x.range(1, 6);
            for (int n = 1; n < 15; n += 2) {
                x.range(n, 6);
                x.zip(StreamFusion.B_ADD);
            }
        }),
        new Shape("seven zips at the end", x -> {
            for (int n = 0; n < 8; n++) {
                x.range(n, 6);
            }
            for (int n = 0; n < 7; n++) {
                x.zip(StreamFusion.B_SUB);
            }
        }),
        new Shape("16 fragments", x -> Check.fillUp(x, 0)),
    };
}
