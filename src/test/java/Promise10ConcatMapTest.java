/** Promise 10: concatMap. */
final class Promise10ConcatMapTest {
    public static void main(String[] args) {
        lists();
        bindings();
        order();
        limits();
        fragmentsBelow();
        lastNode();
        refusedLeavesTheFragments();
        openIffOuterIsOpen();
        Check.end();
    }

    private static void lists() {
        StreamFusion x = new StreamFusion(256);
        x.range(1, 4);
        x.inner(10, 2);
        Check.due("concatMap()", x.concatMap(), StreamFusion.OK);
        Check.stack("of range and inner", x, "3/1/c");
        Check.list("of range and inner", x, 11, 12, 13, 14);
        Check.cost("of range and inner", x, 4 + 4 + 4);

        StreamFusion closed = new StreamFusion(256);
        closed.range(1, 3);
        closed.range(7, 2);
        closed.concatMap();
        Check.list("of a closed inner part", closed, 7, 8, 7, 8, 7, 8);
        Check.cost("of a closed inner part", closed, 3 + 6 + 6);

        StreamFusion noOuter = new StreamFusion(256);
        noOuter.range(1, 0);
        noOuter.range(7, 2);
        noOuter.map(StreamFusion.F_ADD, 1);
        noOuter.concatMap();
        Check.list("of an empty outer list", noOuter);
        Check.cost("of an empty outer list", noOuter, 0);

        StreamFusion noInner = new StreamFusion(256);
        noInner.range(1, 5);
        noInner.range(7, 0);
        noInner.concatMap();
        Check.list("of empty inner lists", noInner);
        Check.cost("of empty inner lists", noInner, 5);

        StreamFusion some = new StreamFusion(256);
        some.range(-3, 6);
        some.inner(0, 2);
        some.concatMap();
        Check.list("of inner lists with gaps", some, -2, -1, 0, 1, 2, 3);
    }

    private static void bindings() {
        StreamFusion free = new StreamFusion(256);
        free.range(1, 3);
        free.inner(0, 3);
        free.inner(0, 3);
        Check.due("concatMap() of two free sources", free.concatMap(), StreamFusion.OK);
        Check.stack("the source in O stays free", free, "1/0/c", "3/1/o");
        Check.due("the outer concatMap()", free.concatMap(), StreamFusion.OK);
        Check.stack("all is bound", free, "5/2/c");
        Check.list("O's source to the outer, I's to its own", free, 1, 2, 3, 3, 4, 5, 3, 4, 5, 5);
        Check.cost("O's source to the outer, I's to its own", free, 3 + 6 + 10 + 10 + 10);

        StreamFusion bound = new StreamFusion(256);
        bound.range(5, 2);
        bound.range(1, 2);
        bound.inner(0, 6);
        bound.concatMap();
        bound.inner(0, 6);
        bound.zip(StreamFusion.B_MUL);
        Check.stack("a bound source and a free one", bound, "1/0/c", "5/1/o");
        bound.concatMap();
        Check.stack("both bound", bound, "7/2/c");
        Check.list("the bound source keeps its binding", bound, 5, 12, 21, 6, 14, 24);

        StreamFusion outer = new StreamFusion(256);
        outer.range(1, 2);
        outer.inner(1, 4);
        outer.map(StreamFusion.F_MUL, 2);
        outer.range(0, 2);
        outer.concatMap();
        Check.stack("open for O alone", outer, "1/0/c", "4/1/o");
        outer.scan(StreamFusion.B_ADD, 0);
        outer.concatMap();
        Check.list("a closed inner part under an open O", outer, 0, 1, 0, 1, 1, 2);

        StreamFusion left = new StreamFusion(256);
        left.range(1, 3);
        left.inner(0, 6);
        left.concatMap();
        left.inner(10, 1);
        left.concatMap();
        Check.stack("concatMap of a concatMap", left, "5/2/c");
        Check.list("concatMap of a concatMap", left, 11, 13, 13, 15);
        Check.cost("concatMap of a concatMap", left, 3 + 6 + 6 + 4 + 4);

        StreamFusion below = new StreamFusion(256);
        below.inner(0, 1);
        below.take(1);
        below.range(0, 2);
        below.inner(0, 1);
        below.concatMap();
        Check.stack("the fragment below O", below, "2/0/o", "3/1/c");
        below.clear();
        below.inner(0, 1);
        below.range(0, 2);
        below.concatMap();
        Check.stack("open O and closed I", below, "3/1/o");
    }

    private static void order() {
        StreamFusion x = new StreamFusion(256);
        Check.refused("concatMap() on nothing", x, StreamFusion.UNDERFLOW, () -> x.concatMap());
        x.range(0, 2);
        Check.refused("concatMap() of one", x, StreamFusion.UNDERFLOW, () -> x.concatMap());
        for (int i = 0; i < 15; i++) {
            x.take(2);
        }
        Check.refused("concatMap() of one full fragment", x, StreamFusion.UNDERFLOW, () -> x.concatMap());

        StreamFusion y = new StreamFusion(256);
        counted(y, 1);
        counted(y, 1);
        Check.refused("concatMap() of 1 and 1", y, StreamFusion.LIMIT, () -> y.concatMap());
        for (int i = 0; i < 10; i++) {
            y.take(1);
        }
        Check.stack("16 nodes", y, "3/1/c", "13/1/c");
        Check.refused("concatMap() of 1 and 1 when full", y, StreamFusion.FULL, () -> y.concatMap());

        StreamFusion single = new StreamFusion(256);
        counted(single, 2);
        Check.refused("concatMap() of one of count 2", single, StreamFusion.UNDERFLOW, () -> single.concatMap());
    }

    /** Every pair of concat counts from 0 to 3. */
    private static void limits() {
        for (int o = 0; o <= 3; o++) {
            for (int i = 0; o + i <= 4 && i <= 3; i++) {
                StreamFusion x = new StreamFusion(256);
                counted(x, o);
                counted(x, i);
                String call = "concatMap() of counts " + o + " and " + i;
                if (o + i >= 2) {
                    Check.refused(call, x, StreamFusion.LIMIT, () -> x.concatMap());
                } else {
                    int size = (x.fragment(0) / 16) + (x.fragment(1) / 16) + 1;
                    Check.due(call, x.concatMap(), StreamFusion.OK);
                    Check.stack(call, x, size + "/" + (o + i + 1) + "/c");
                }
            }
        }

        StreamFusion z = new StreamFusion(256);
        counted(z, 2);
        z.range(0, 1);
        z.range(0, 1);
        Check.due("the two counts alone matter", z.concatMap(), StreamFusion.OK);
        Check.stack("the two counts alone matter", z, "5/2/c", "3/1/c");
        Check.refused("counts 2 and 1", z, StreamFusion.LIMIT, () -> z.concatMap());
    }

    /** Pushes a closed fragment with the given concat count. */
    private static void counted(StreamFusion x, int concats) {
        x.range(1, 2);
        for (int i = 0; i < concats && i < 2; i++) {
            x.inner(0, 2);
            Check.due("concatMap() number " + i, x.concatMap(), StreamFusion.OK);
        }
        if (concats == 3) {
            counted(x, 1);
            Check.due("zip", x.zip(StreamFusion.B_ADD), StreamFusion.OK);
        }
    }

    private static void fragmentsBelow() {
        StreamFusion x = new StreamFusion(256);
        x.inner(9, 9);
        x.take(3);
        x.range(40, 6);
        x.range(1, 3);
        x.inner(0, 6);
        Check.due("concatMap() on four fragments", x.concatMap(), StreamFusion.OK);
        Check.stack("concatMap() on four fragments", x, "2/0/o", "1/0/c", "3/1/c");
        Check.due("zip", x.zip(StreamFusion.B_SUB), StreamFusion.OK);
        Check.due("zip", x.zip(StreamFusion.B_SND), StreamFusion.OK);
        Check.stack("the source below stays free", x, "8/1/o");
        x.clear();
        x.range(40, 6);
        x.range(1, 3);
        x.inner(0, 6);
        x.concatMap();
        x.zip(StreamFusion.B_SUB);
        Check.both("the list below", x, 6 + 3 + 6 + 6 + 6, 39, 39, 39, 40, 40, 40);
    }

    private static void lastNode() {
        StreamFusion x = new StreamFusion(256);
        x.range(1, 2);
        x.inner(3, 2);
        for (int n = 2; n < 15; n++) {
            x.map(StreamFusion.F_ADD, 0);
        }
        Check.due("concatMap() as node 16", x.concatMap(), StreamFusion.OK);
        Check.stack("concatMap() as node 16", x, "16/1/c");
        Check.list("concatMap() as node 16", x, 4, 5, 6);
        x.clear();
        x.range(1, 2);
        x.inner(3, 2);
        for (int n = 2; n < 16; n++) {
            x.map(StreamFusion.F_ADD, 0);
        }
        Check.refused("concatMap() as node 17", x, StreamFusion.FULL, () -> x.concatMap());
    }

    private static void refusedLeavesTheFragments() {
        StreamFusion x = new StreamFusion(256);
        x.range(1, 3);
        Check.refused("concatMap() of one", x, StreamFusion.UNDERFLOW, () -> x.concatMap());
        Check.both("the one fragment", x, 3, 1, 2, 3);
        x.inner(0, 6);
        x.concatMap();
        x.range(1, 2);
        x.range(5, 3);
        x.concatMap();
        Check.refused("concatMap() of counts 1 and 1", x, StreamFusion.LIMIT, () -> x.concatMap());
        Check.refused("concatMap() of counts 1 and 1 again", x, StreamFusion.LIMIT, () -> x.concatMap());
        x.zip(StreamFusion.B_SUB);
        Check.stack("the two fragments", x, "7/2/c");
        Check.both("the two fragments", x, 3 + 6 + 6 + 2 + 6 + 6 + 6, -4, -4, -4, -2, -2, -2);

        StreamFusion open = new StreamFusion(256);
        open.range(1, 3);
        open.inner(0, 6);
        open.range(0, 2);
        open.concatMap();
        open.inner(0, 1);
        open.concatMap();
        Check.stack("an open top of count 2", open, "1/0/c", "5/2/o");
        Check.refused("concatMap() over it", open, StreamFusion.LIMIT, () -> open.concatMap());
        Check.stack("nothing is bound by it", open, "1/0/c", "5/2/o");
    }

    private static void openIffOuterIsOpen() {
        for (int which = 0; which < 4; which++) {
            boolean outer = which % 2 == 1;
            boolean inner = which / 2 == 1;
            StreamFusion x = new StreamFusion(256);
            if (outer) {
                x.inner(0, 1);
            } else {
                x.range(0, 1);
            }
            if (inner) {
                x.inner(0, 1);
            } else {
                x.range(0, 1);
            }
            x.take(1);
            Check.due("concatMap()", x.concatMap(), StreamFusion.OK);
            Check.stack("O open: " + outer + ", I open: " + inner, x, outer ? "4/1/o" : "4/1/c");
        }
    }
}
