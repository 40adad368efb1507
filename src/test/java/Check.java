import java.util.function.IntSupplier;

/** What the tests of the project share: they count wrong answers and end with exit code 1 if there was one. */
final class Check {
    private static int wrong = 0;
    private static int looked = 0;

    private Check() {
    }

    static void due(String what, Object got, Object want) {
        looked++;
        if (!got.equals(want)) {
            wrong++;
            System.out.println(what + " answered " + got + ", due is " + want);
        }
    }

    /** Runs the pipeline FUSED and looks at the whole result, with the indices just outside it. */
    static void list(String what, StreamFusion x, int... want) {
        due(what + ": run(FUSED)", x.run(StreamFusion.FUSED), StreamFusion.OK);
        due(what + ": outCount()", x.outCount(), want.length);
        for (int i = 0; i < want.length; i++) {
            due(what + ": out(" + i + ")", x.out(i), want[i]);
        }
        due(what + ": out(-1)", x.out(-1), 0);
        due(what + ": out(" + want.length + ")", x.out(want.length), 0);
        due(what + ": cellsUsed()", x.cellsUsed(), 0);
    }

    /** Runs the pipeline MATERIAL on an object whose heap is large enough. */
    static void cost(String what, StreamFusion x, int want) {
        due(what + ": run(MATERIAL)", x.run(StreamFusion.MATERIAL), StreamFusion.OK);
        due(what + ": cellsUsed()", x.cellsUsed(), want);
    }

    /** Both modes, on an object whose heap is large enough: the same values, and the cost from MATERIAL alone. */
    static void both(String what, StreamFusion x, int cost, int... want) {
        list(what, x, want);
        cost(what, x, cost);
        due(what + ": outCount() of MATERIAL", x.outCount(), want.length);
        for (int i = 0; i < want.length; i++) {
            due(what + ": out(" + i + ") of MATERIAL", x.out(i), want[i]);
        }
        due(what + ": out(" + want.length + ") of MATERIAL", x.out(want.length), 0);
    }

    /** Runs the pipeline MATERIAL on an object whose heap is too small. */
    static void heapFull(String what, StreamFusion x) {
        due(what + ": run(MATERIAL)", x.run(StreamFusion.MATERIAL), StreamFusion.HEAP_FULL);
        noResult(what + " after HEAP_FULL", x);
    }

    static void noResult(String what, StreamFusion x) {
        due(what + ": outCount()", x.outCount(), 0);
        due(what + ": cellsUsed()", x.cellsUsed(), 0);
        for (int i = -1; i <= StreamFusion.OUT_CAP; i++) {
            due(what + ": out(" + i + ")", x.out(i), 0);
        }
    }

    /** The shape of the stack from the bottom, a fragment as size/concat count/o for open or c for closed. */
    static void stack(String what, StreamFusion x, String... want) {
        due(what + ": stackDepth()", x.stackDepth(), want.length);
        for (int i = 0; i < want.length; i++) {
            String[] parts = want[i].split("/");
            int due = 16 * Integer.parseInt(parts[0]) + 2 * Integer.parseInt(parts[1]) + (parts[2].equals("o") ? 1 : 0);
            due(what + ": fragment(" + i + ")", x.fragment(i), due);
        }
        due(what + ": fragment(" + want.length + ")", x.fragment(want.length), -1);
        due(what + ": fragment(-1)", x.fragment(-1), -1);
    }

    /** All that the getters tell of an object. */
    static String state(StreamFusion x) {
        StringBuilder told = new StringBuilder();
        for (int i = -1; i <= StreamFusion.MAX_NODES; i++) {
            told.append(x.fragment(i)).append(' ');
        }
        told.append("depth ").append(x.stackDepth()).append(" cells ").append(x.cellsUsed());
        told.append(" count ").append(x.outCount()).append(':');
        for (int i = -1; i <= StreamFusion.OUT_CAP; i++) {
            boolean inside = i >= 0 && i < x.outCount();
            if (inside) {
                told.append(' ').append(x.out(i));
            } else if (x.out(i) != 0) {
                told.append(" and outside out(").append(i).append(") ").append(x.out(i));
            }
        }
        return told.toString();
    }

    /** Makes a call and says whether it answered the refusal that is due and changed nothing. */
    static void refused(String what, StreamFusion x, int want, IntSupplier call) {
        String before = state(x);
        due(what, call.getAsInt(), want);
        due("the state after " + what, state(x), before);
    }

    /** N, which no getter tells alone: the sizes of all fragments. */
    static int nodes(StreamFusion x) {
        int nodes = 0;
        for (int i = 0; i < x.stackDepth(); i++) {
            nodes += x.fragment(i) / 16;
        }
        return nodes;
    }

    /** What the getters tell of the result alone. */
    static String result(StreamFusion x) {
        String told = state(x);
        return told.substring(told.indexOf("cells"));
    }

    /** What the getters tell of the stack alone. */
    static String shape(StreamFusion x) {
        String told = state(x);
        return told.substring(0, told.indexOf("cells"));
    }

    /** Pushes closed sources of one node each until the node count is 16. */
    static void fillUp(StreamFusion x, int nodesSoFar) {
        for (int n = nodesSoFar; n < StreamFusion.MAX_NODES; n++) {
            due("range(" + n + ", 1) as node " + (n + 1), x.range(n, 1), StreamFusion.OK);
        }
    }

    /** Builds a pipeline that costs the given number of cells, from 7 to 500. */
    static void buildCost(StreamFusion x, int cost) {
        x.range(0, 6);
        int step = 6;
        int rest = cost - 6;
        if (cost > 78) {
            x.range(0, 6);
            x.concatMap();
            step = 36;
            rest = cost - 78;
        }
        for (; rest > step; rest -= step) {
            x.map(StreamFusion.F_ADD, 1);
        }
        x.take(rest);
    }

    static boolean anyWrong() {
        return wrong != 0;
    }

    static void end() {
        System.out.println(wrong == 0 ? looked + " answers are as due" : wrong + " answers are not as due");
        if (wrong != 0 || looked == 0) {
            System.exit(1);
        }
    }
}
