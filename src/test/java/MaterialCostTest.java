/** 'Material cost': what each kind of node counts, where it counts more than the result needs, and where nothing. */
final class MaterialCostTest {
    private static final int MAX = Integer.MAX_VALUE;
    private static final int MIN = Integer.MIN_VALUE;

    public static void main(String[] args) {
        sources();
        eachTransformer();
        takeCountsItsWholeChild();
        dropCountsItsWholeChild();
        takeAndDropOfManyNodes();
        zipCountsBothWhole();
        everyInnerInstanceCounts();
        emptyOuterList();
        emptyOuterListInsideAnInnerPart();
        outerCutBeforeAndAfter();
        everyCostUpToTheHeap();
        greatestCosts();
        Check.end();
    }

    private static void sources() {
        for (int len = -1; len <= 7; len++) {
            StreamFusion x = new StreamFusion(256);
            x.range(3, len);
            Check.cost("range(3, " + len + ")", x, Math.max(0, Math.min(6, len)));
        }
        for (int element = 0; element < 7; element++) {
            StreamFusion x = new StreamFusion(256);
            x.range(element, 1);
            x.inner(0, 6);
            x.concatMap();
            Check.cost("inner(0, 6) given " + element, x, 1 + element + element);
        }
    }

    private static void eachTransformer() {
        StreamFusion x = new StreamFusion(256);
        x.range(1, 6);
        Check.both("range", x, 6, 1, 2, 3, 4, 5, 6);
        x.map(StreamFusion.F_ADD, 0);
        Check.both("map", x, 12, 1, 2, 3, 4, 5, 6);
        x.filter(StreamFusion.P_EVEN, 0);
        Check.both("filter", x, 15, 2, 4, 6);
        x.scan(StreamFusion.B_ADD, 0);
        Check.both("scan", x, 18, 2, 6, 12);
        x.drop(1);
        Check.both("drop", x, 20, 6, 12);
        x.take(1);
        Check.both("take", x, 21, 6);
        x.range(0, 5);
        x.zip(StreamFusion.B_FST);
        Check.both("zip", x, 21 + 5 + 1, 6);
        x.range(0, 4);
        x.concatMap();
        Check.both("concatMap", x, 27 + 4 + 4, 0, 1, 2, 3);
        x.filter(StreamFusion.P_GT, 9);
        Check.both("filter of none", x, 35);
    }

    private static void takeCountsItsWholeChild() {
        int[] ns = {MIN, -1, 0, 1, 5, 6, 7, MAX};
        int[] kept = {0, 0, 0, 1, 5, 6, 6, 6};
        for (int i = 0; i < ns.length; i++) {
            StreamFusion x = new StreamFusion(256);
            x.range(0, 6);
            x.take(ns[i]);
            Check.cost("take(" + ns[i] + ") of 6", x, 6 + kept[i]);
        }
    }

    private static void dropCountsItsWholeChild() {
        int[] ns = {MIN, -1, 0, 1, 5, 6, 7, MAX};
        int[] kept = {6, 6, 6, 5, 1, 0, 0, 0};
        for (int i = 0; i < ns.length; i++) {
            StreamFusion x = new StreamFusion(256);
            x.range(0, 6);
            x.drop(ns[i]);
            Check.cost("drop(" + ns[i] + ") of 6", x, 6 + kept[i]);
        }
    }

    private static void takeAndDropOfManyNodes() {
        StreamFusion x = new StreamFusion(256);
        x.range(0, 6);
        x.range(0, 6);
        x.concatMap();
        x.map(StreamFusion.F_ADD, 1);
        x.take(0);
        Check.both("take(0) of a map of a concatMap", x, 6 + 36 + 36 + 36);
        x.map(StreamFusion.F_ADD, 1);
        x.drop(3);
        Check.both("and what comes behind it", x, 114);
        x.clear();
        x.range(0, 6);
        x.range(0, 6);
        x.concatMap();
        x.map(StreamFusion.F_ADD, 1);
        x.drop(36);
        Check.both("drop(36) of a map of a concatMap", x, 114);
        x.clear();
        x.range(0, 6);
        x.range(0, 6);
        x.take(1);
        x.drop(-1);
        x.concatMap();
        Check.both("take and drop in an inner part", x, 6 + 36 + 6 + 6 + 6, 0, 0, 0, 0, 0, 0);
    }

    private static void zipCountsBothWhole() {
        for (int a = 0; a <= 6; a++) {
            for (int b = 0; b <= 6; b++) {
                StreamFusion x = new StreamFusion(256);
                x.range(0, a);
                x.map(StreamFusion.F_ADD, 0);
                x.range(0, b);
                x.zip(StreamFusion.B_ADD);
                Check.cost("zip of " + a + " and " + b, x, 2 * a + b + Math.min(a, b));
            }
        }
    }

    private static void everyInnerInstanceCounts() {
        for (int outer = 0; outer <= 6; outer++) {
            StreamFusion x = new StreamFusion(256);
            x.range(0, outer);
            x.range(0, 5);
            x.map(StreamFusion.F_ADD, 1);
            x.take(1);
            x.concatMap();
            Check.cost("a closed I for each of " + outer, x, outer + outer * (5 + 5 + 1) + outer);
        }
        StreamFusion open = new StreamFusion(256);
        open.range(0, 6);
        open.inner(0, 6);
        open.drop(1);
        open.concatMap();
        Check.cost("an I whose length is 0, 1, .., 5", open, 6 + 15 + 10 + 10);

        StreamFusion same = new StreamFusion(256);
        same.range(0, 6);
        same.map(StreamFusion.F_MUL, 0);
        same.range(0, 6);
        same.concatMap();
        Check.cost("equal elements count again", same, 6 + 6 + 36 + 36);

        StreamFusion nested = new StreamFusion(256);
        nested.range(1, 3);
        nested.inner(0, 3);
        nested.inner(0, 3);
        nested.drop(1);
        nested.concatMap();
        nested.concatMap();
        Check.both("two levels", nested, 3 + 6 + 10 + 5 + 5 + 5, 3, 4, 5, 4, 5);

        StreamFusion zipped = new StreamFusion(256);
        zipped.range(1, 2);
        zipped.range(0, 3);
        zipped.inner(0, 6);
        zipped.zip(StreamFusion.B_ADD);
        zipped.concatMap();
        Check.both("a zip in I", zipped, 2 + 6 + 3 + 3 + 3, 1, 2, 4);
    }

    private static void emptyOuterList() {
        StreamFusion x = new StreamFusion(8);
        x.range(0, 0);
        x.range(0, 6);
        x.map(StreamFusion.F_ADD, 1);
        x.scan(StreamFusion.B_ADD, 1);
        x.concatMap();
        Check.both("no element, no instance of I", x, 0);
        x.clear();
        x.range(0, 6);
        x.take(0);
        x.range(0, 6);
        x.range(0, 6);
        x.zip(StreamFusion.B_ADD);
        x.concatMap();
        Check.both("O itself counts", x, 6);
        x.clear();
        x.range(1, 6);
        x.filter(StreamFusion.P_LT, 1);
        x.inner(0, 6);
        x.concatMap();
        Check.both("O without elements after a filter", x, 6);
        x.clear();
        x.range(0, 0);
        x.range(0, 6);
        x.range(0, 6);
        x.concatMap();
        x.concatMap();
        Check.both("a concatMap in I", x, 0);
    }

    private static void emptyOuterListInsideAnInnerPart() {
        StreamFusion x = new StreamFusion(256);
        x.range(0, 4);
        x.inner(0, 1);
        x.range(0, 6);
        x.concatMap();
        x.concatMap();
        // inner(0, 1) is [], [1], [], [3], so the range is there twice.
        Check.both("I's own O is empty for 0 and 2", x, 4 + 2 + 12 + 12 + 12, 0, 1, 2, 3, 4, 5, 0, 1, 2, 3, 4, 5);
        x.clear();
        x.range(0, 4);
        x.range(0, 0);
        x.range(0, 6);
        x.concatMap();
        x.concatMap();
        Check.both("I's own O is always empty", x, 4);
    }

    private static void outerCutBeforeAndAfter() {
        StreamFusion before = new StreamFusion(256);
        before.range(0, 6);
        before.take(2);
        before.range(0, 6);
        before.concatMap();
        Check.cost("a cut O has fewer instances", before, 6 + 2 + 12 + 12);
        StreamFusion after = new StreamFusion(256);
        after.range(0, 6);
        after.range(0, 6);
        after.concatMap();
        after.take(12);
        Check.cost("a cut result has them all", after, 6 + 36 + 36 + 12);
    }

    private static void everyCostUpToTheHeap() {
        for (int cost = 0; cost <= 256; cost++) {
            StreamFusion x = new StreamFusion(256);
            if (cost < 7) {
                x.range(0, cost);
            } else {
                Check.buildCost(x, cost);
            }
            Check.cost("a pipeline of " + cost, x, cost);
        }
    }

    private static void greatestCosts() {
        StreamFusion x = new StreamFusion(MAX);
        x.range(0, 6);
        x.range(0, 6);
        x.concatMap();
        x.range(0, 6);
        x.concatMap();
        Check.heapFull("5 nodes with 216 values", x);
        for (int n = 5; n < 16; n++) {
            x.map(StreamFusion.F_ADD, 1);
            Check.heapFull(n + 1 + " nodes with 216 values", x);
        }
    }
}
