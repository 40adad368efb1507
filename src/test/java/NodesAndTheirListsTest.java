/** 'Nodes and their lists': the edges of every kind of node, in both modes. */
final class NodesAndTheirListsTest {
    private static final int MAX = Integer.MAX_VALUE;
    private static final int MIN = Integer.MIN_VALUE;

    public static void main(String[] args) {
        arithmeticWraps();
        lengthOfInner();
        lengthOfInnerForEveryCap();
        takeAndDropAtEveryLength();
        takeAndDropOfEachInnerList();
        emptyChildren();
        zipOverEmptyLists();
        concatMapOverEmptyLists();
        initIsNotInTheList();
        freeUntilBound();
        allFreeInTheInnerPartAreBound();
        freeInTheOuterPartStaysFree();
        boundSourcesKeepTheirBinding();
        onlyWhatIsThereIsBound();
        Check.end();
    }

    private static void arithmeticWraps() {
        StreamFusion x = new StreamFusion(256);
        x.range(MAX, 2);
        Check.both("range", x, 2, MAX, MIN);
        x.inner(1, 1);
        x.concatMap();
        Check.both("inner: x + off", x, 4, MIN);
        x.clear();
        x.range(MAX, 1);
        x.inner(0, 3);
        x.concatMap();
        Check.both("inner: x, x + 1, ..", x, 7, MAX, MIN, MIN + 1);
        x.map(StreamFusion.F_ADD, 1);
        Check.both("map", x, 10, MIN, MIN + 1, MIN + 2);
        x.scan(StreamFusion.B_ADD, 1);
        Check.both("scan", x, 13, MIN + 1, 2, MIN + 4);
        x.range(MAX, 3);
        x.zip(StreamFusion.B_ADD);
        Check.both("zip", x, 19, 0, MIN + 2, 5);
    }

    /** L = ((x % (c+1)) + (c+1)) % (c+1), by hand. */
    private static void lengthOfInner() {
        int[][] rows = {
            // c, then x and L by turns
            {0, -2, 0, -1, 0, 0, 0, 1, 0, 2, 0, MIN, 0, MAX, 0},
            {1, -3, 1, -2, 0, -1, 1, 0, 0, 1, 1, 2, 0, MIN, 0, MAX, 1},
            {2, -4, 2, -3, 0, -2, 1, -1, 2, 0, 0, 1, 1, 2, 2, 3, 0, MIN, 1, MAX, 1},
            {3, -5, 3, -4, 0, -3, 1, -2, 2, -1, 3, 0, 0, 3, 3, 4, 0, MIN, 0, MAX, 3},
            {4, -6, 4, -5, 0, -4, 1, -1, 4, 0, 0, 4, 4, 5, 0, MIN, 2, MAX, 2},
            {5, -7, 5, -6, 0, -5, 1, -1, 5, 0, 0, 5, 5, 6, 0, MIN, 4, MAX, 1},
            {6, -8, 6, -7, 0, -6, 1, -1, 6, 0, 0, 6, 6, 7, 0, MIN, 5, MAX, 1},
        };
        for (int[] row : rows) {
            for (int i = 1; i < row.length; i += 2) {
                inner(row[i], 0, row[0], row[i + 1]);
                inner(row[i], 100, row[0], row[i + 1]);
            }
        }
    }

    private static void lengthOfInnerForEveryCap() {
        for (int cap = -2; cap <= 9; cap++) {
            int modulus = Math.max(0, Math.min(6, cap)) + 1;
            for (int x = -50; x <= 50; x++) {
                inner(x, 0, cap, Math.floorMod(x, modulus));
                inner(MAX - 50 - x, 7, cap, Math.floorMod(MAX - 50 - x, modulus));
                inner(MIN + 50 + x, -7, cap, Math.floorMod(MIN + 50 + x, modulus));
            }
        }
    }

    private static void inner(int x, int off, int cap, int length) {
        StreamFusion s = new StreamFusion(256);
        s.range(x, 1);
        s.inner(off, cap);
        s.concatMap();
        int[] want = new int[length];
        for (int i = 0; i < length; i++) {
            want[i] = x + off + i;
        }
        Check.both("inner(" + off + ", " + cap + ") given " + x, s, 1 + 2 * length, want);
    }

    private static void takeAndDropAtEveryLength() {
        for (int len = 0; len <= 6; len++) {
            for (int n : new int[] {MIN, MIN + 1, -7, -1, 0, 1, len - 1, len, len + 1, 7, MAX - 1, MAX}) {
                int kept = n < 0 ? 0 : Math.min(n, len);
                StreamFusion x = new StreamFusion(256);
                x.range(40, len);
                x.take(n);
                Check.both("take(" + n + ") of " + len, x, len + kept, run(40, kept));
                x.clear();
                x.range(40, len);
                x.drop(n);
                Check.both("drop(" + n + ") of " + len, x, len + len - kept, run(40 + kept, len - kept));
            }
        }
    }

    private static int[] run(int first, int length) {
        int[] run = new int[length];
        for (int i = 0; i < length; i++) {
            run[i] = first + i;
        }
        return run;
    }

    /** The child of a take or drop in an inner part is the list of one element, not of all of them. */
    private static void takeAndDropOfEachInnerList() {
        StreamFusion x = new StreamFusion(256);
        for (int n : new int[] {MIN, -1, 0}) {
            perElement(x, n, true);
            Check.both("take(" + n + ") of each", x, 3 + 6);
            perElement(x, n, false);
            Check.both("drop(" + n + ") of each", x, 3 + 6 + 6 + 6, 1, 2, 3, 3, 4, 5);
        }
        perElement(x, 1, true);
        Check.both("take(1) of each", x, 3 + 6 + 3 + 3, 1, 2, 3);
        perElement(x, 1, false);
        Check.both("drop(1) of each", x, 3 + 6 + 3 + 3, 3, 4, 5);
        perElement(x, 2, true);
        Check.both("take(2) of each", x, 3 + 6 + 5 + 5, 1, 2, 3, 3, 4);
        perElement(x, 2, false);
        Check.both("drop(2) of each", x, 3 + 6 + 1 + 1, 5);
        for (int n : new int[] {3, 4, MAX}) {
            perElement(x, n, true);
            Check.both("take(" + n + ") of each", x, 3 + 6 + 6 + 6, 1, 2, 3, 3, 4, 5);
            perElement(x, n, false);
            Check.both("drop(" + n + ") of each", x, 3 + 6);
        }
    }

    private static void perElement(StreamFusion x, int n, boolean take) {
        x.clear();
        x.range(1, 3);
        x.inner(0, 6);
        Check.due(take ? "take" : "drop", take ? x.take(n) : x.drop(n), StreamFusion.OK);
        x.concatMap();
    }

    private static void emptyChildren() {
        for (int way = 0; way < 5; way++) {
            String of = " of an empty list, way " + way;
            StreamFusion x = new StreamFusion(256);
            int cost = empty(x, way);
            Check.both("the list" + of, x, cost);
            x.map(StreamFusion.F_ADD, 5);
            Check.both("map" + of, x, cost);
            x.filter(StreamFusion.P_NE, 5);
            Check.both("filter" + of, x, cost);
            x.take(3);
            Check.both("take" + of, x, cost);
            x.drop(-3);
            Check.both("drop" + of, x, cost);
            for (int op = StreamFusion.B_ADD; op <= StreamFusion.B_SND; op++) {
                x.scan(op, 5);
                Check.both("scan(" + op + ", 5)" + of, x, cost);
            }
        }
    }

    /** Pushes a closed fragment with an empty list, and answers what it costs. */
    private static int empty(StreamFusion x, int way) {
        x.range(3, way == 0 ? 0 : 4);
        switch (way) {
            case 0:
                return 0;
            case 1:
                x.take(0);
                return 4;
            case 2:
                x.drop(4);
                return 4;
            case 3:
                x.filter(StreamFusion.P_LT, 3);
                return 4;
            default:
                x.inner(0, 0);
                x.concatMap();
                return 4;
        }
    }

    private static void zipOverEmptyLists() {
        for (int op = StreamFusion.B_ADD; op <= StreamFusion.B_SND; op++) {
            for (int way = 0; way < 5; way++) {
                String what = "zip(" + op + ") way " + way;
                StreamFusion x = new StreamFusion(256);
                int cost = empty(x, way);
                x.range(0, 6);
                x.zip(op);
                Check.both(what + " with A empty", x, cost + 6);
                x.clear();
                x.range(0, 6);
                cost = empty(x, way);
                x.zip(op);
                Check.both(what + " with B empty", x, cost + 6);
                x.clear();
                cost = empty(x, way) + empty(x, way);
                x.zip(op);
                Check.both(what + " with both empty", x, cost);
            }
        }
    }

    private static void concatMapOverEmptyLists() {
        for (int way = 0; way < 5; way++) {
            StreamFusion x = new StreamFusion(256);
            int cost = empty(x, way);
            x.inner(0, 6);
            x.map(StreamFusion.F_ADD, 1);
            Check.due("concatMap()", x.concatMap(), StreamFusion.OK);
            Check.both("concatMap with O empty, way " + way, x, cost);
            x.clear();
            x.range(0, 6);
            cost = empty(x, way);
            Check.due("concatMap()", x.concatMap(), StreamFusion.OK);
            Check.both("concatMap with I empty, way " + way, x, 6 + 6 * cost);
        }
        StreamFusion gaps = new StreamFusion(256);
        gaps.range(-3, 6);
        gaps.inner(10, 2);
        gaps.concatMap();
        Check.both("concatMap with I empty for -3 and 0", gaps, 6 + 6 + 6, 8, 9, 10, 11, 12, 13);
        gaps.inner(0, 1);
        gaps.concatMap();
        Check.both("and once more", gaps, 18 + 3 + 3, 9, 11, 13);
    }

    private static void initIsNotInTheList() {
        StreamFusion x = new StreamFusion(256);
        x.range(1, 1);
        x.scan(StreamFusion.B_FST, 77);
        Check.both("scan(B_FST, 77) of one", x, 2, 77);
        x.scan(StreamFusion.B_SND, 78);
        Check.both("scan(B_SND, 78) of one", x, 3, 77);
        x.scan(StreamFusion.B_SUB, 100);
        Check.both("scan(B_SUB, 100): g(s0, a1), not g(a1, s0)", x, 4, 23);
    }

    private static void freeUntilBound() {
        StreamFusion x = new StreamFusion(256);
        x.range(1, 3);
        x.inner(0, 6);
        Check.stack("inner", x, "1/0/c", "1/0/o");
        x.map(StreamFusion.F_ADD, 0);
        x.filter(StreamFusion.P_NE, 99);
        x.take(6);
        x.drop(0);
        x.scan(StreamFusion.B_SND, 0);
        Check.stack("every transformer leaves it free", x, "1/0/c", "6/0/o");
        x.concatMap();
        Check.stack("concatMap binds it", x, "8/1/c");
        Check.both("the bound source", x, 3 + 6 * 6 + 6, 1, 2, 3, 3, 4, 5);
        x.map(StreamFusion.F_ADD, 0);
        Check.stack("and it stays bound", x, "9/1/c");
    }

    private static void allFreeInTheInnerPartAreBound() {
        StreamFusion x = new StreamFusion(256);
        x.range(2, 2);
        x.inner(0, 6);
        x.inner(10, 6);
        x.inner(100, 6);
        x.zip(StreamFusion.B_ADD);
        x.zip(StreamFusion.B_ADD);
        Check.stack("three free sources", x, "1/0/c", "5/0/o");
        x.concatMap();
        Check.stack("one concatMap binds them all", x, "7/1/c");
        Check.both("three sources of one element", x, 2 + 5 * 5 + 5, 116, 119, 119, 122, 125);
    }

    private static void freeInTheOuterPartStaysFree() {
        StreamFusion x = new StreamFusion(256);
        x.range(2, 1);
        x.inner(0, 6);
        x.inner(10, 6);
        x.zip(StreamFusion.B_ADD);
        x.inner(100, 1);
        x.concatMap();
        Check.stack("both sources of O stay free", x, "1/0/c", "5/1/o");
        Check.due("run of two", x.run(StreamFusion.FUSED), StreamFusion.BAD_SHAPE);
        x.concatMap();
        Check.stack("until O is an inner part itself", x, "7/2/c");
        // For 2: [2, 3] and [12, 13] give [14, 16]; both are even, so inner(100, 1) is empty.
        Check.both("their element is 2", x, 1 + 2 + 2 + 2);
        x.clear();
        x.range(2, 1);
        x.inner(0, 6);
        x.inner(11, 6);
        x.zip(StreamFusion.B_ADD);
        x.inner(100, 1);
        x.concatMap();
        x.concatMap();
        Check.both("odd sums", x, 1 + 2 + 2 + 2 + 2 + 2 + 2, 115, 117);
    }

    private static void boundSourcesKeepTheirBinding() {
        StreamFusion x = new StreamFusion(256);
        x.range(4, 2);
        x.range(1, 2);
        x.inner(0, 6);
        x.concatMap();
        x.inner(0, 6);
        x.zip(StreamFusion.B_MUL);
        Check.stack("one bound, one free", x, "1/0/c", "5/1/o");
        x.concatMap();
        // The bound source gives [1], [2, 3] for each of 4 and 5; the free one gives [4, 5, ..], [5, 6, ..].
        Check.both("each keeps its own", x, 2 + 4 + 6 + 6 + 9 + 6 + 6, 4, 10, 18, 5, 12, 21);
    }

    private static void onlyWhatIsThereIsBound() {
        StreamFusion x = new StreamFusion(256);
        x.inner(0, 3);
        x.range(1, 2);
        x.inner(0, 3);
        x.concatMap();
        Check.stack("a source below O is not bound", x, "1/0/o", "3/1/c");
        x.inner(0, 3);
        Check.stack("nor one that comes later", x, "1/0/o", "3/1/c", "1/0/o");
        x.concatMap();
        Check.stack("the later one is bound by the next concatMap", x, "1/0/o", "5/2/c");
        x.clear();
        x.range(0, 1);
        x.range(0, 1);
        x.concatMap();
        x.inner(0, 3);
        Check.stack("a concatMap that bound nothing", x, "3/1/c", "1/0/o");
        x.clear();
        x.inner(0, 3);
        x.inner(0, 3);
        x.concatMap();
        Check.stack("O free, I bound", x, "3/1/o");
        Check.due("run of an open one", x.run(StreamFusion.FUSED), StreamFusion.BAD_SHAPE);
    }
}
