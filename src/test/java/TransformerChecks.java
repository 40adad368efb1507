import java.util.function.ToIntFunction;

/** What map, filter, take, drop and scan promise alike: the order of their refusals and the shape they leave. */
final class TransformerChecks {
    interface TableCall {
        int on(StreamFusion x, int op);
    }

    private TransformerChecks() {
    }

    static void refusalsInOrder(String name, ToIntFunction<StreamFusion> call) {
        StreamFusion x = new StreamFusion(256);
        Check.refused(name + " on nothing", x, StreamFusion.UNDERFLOW, () -> call.applyAsInt(x));
        Check.fillUp(x, 0);
        Check.refused(name + " when full", x, StreamFusion.FULL, () -> call.applyAsInt(x));
    }

    /** For a call with a table: a wrong op is refused before all else, on an empty stack and a full one. */
    static void opsInOrder(String name, int greatestOp, TableCall call) {
        for (int op = 0; op <= greatestOp; op++) {
            int right = op;
            refusalsInOrder(name + " with op " + op, x -> call.on(x, right));
        }
        StreamFusion empty = new StreamFusion(256);
        StreamFusion full = new StreamFusion(256);
        Check.fillUp(full, 0);
        for (int op : new int[] {Integer.MIN_VALUE, -1, greatestOp + 1, greatestOp + 2, Integer.MAX_VALUE}) {
            String what = name + " with op " + op;
            Check.refused(what + " on nothing", empty, StreamFusion.BAD_OP, () -> call.on(empty, op));
            Check.refused(what + " when full", full, StreamFusion.BAD_OP, () -> call.on(full, op));
        }
        Check.stack(name + " refused on nothing", empty);
    }

    static void shape(String name, ToIntFunction<StreamFusion> call) {
        StreamFusion x = new StreamFusion(256);
        x.inner(0, 2);
        x.range(0, 2);
        x.inner(0, 2);
        Check.due(name + " of an open fragment", call.applyAsInt(x), StreamFusion.OK);
        Check.stack(name + " of an open fragment", x, "1/0/o", "1/0/c", "2/0/o");
        x.concatMap();
        Check.due(name + " of a concatMap", call.applyAsInt(x), StreamFusion.OK);
        Check.stack(name + " of a concatMap", x, "1/0/o", "5/1/c");
        x.concatMap();
        Check.due(name + " of an open concatMap", call.applyAsInt(x), StreamFusion.OK);
        Check.stack(name + " of an open concatMap", x, "8/2/o");
        for (int size = 9; size <= StreamFusion.MAX_NODES; size++) {
            Check.due(name + " as node " + size, call.applyAsInt(x), StreamFusion.OK);
            Check.stack(name + " as node " + size, x, size + "/2/o");
        }
        Check.refused(name + " as node 17", x, StreamFusion.FULL, () -> call.applyAsInt(x));

        StreamFusion e = new StreamFusion(256);
        e.range(4, 0);
        Check.due(name + " of an empty list", call.applyAsInt(e), StreamFusion.OK);
        Check.list(name + " of an empty list", e);
        Check.cost(name + " of an empty list", e, 0);
    }

    /** The fragments below the top keep their shapes and their lists; of 0..5, the call must leave three or more. */
    static void below(String name, ToIntFunction<StreamFusion> call) {
        StreamFusion x = new StreamFusion(256);
        x.range(7, 2);
        x.map(StreamFusion.F_MUL, 3);
        x.range(50, 3);
        x.range(0, 6);
        Check.due(name + " on three fragments", call.applyAsInt(x), StreamFusion.OK);
        Check.stack(name + " on three fragments", x, "2/0/c", "1/0/c", "2/0/c");
        x.zip(StreamFusion.B_FST);
        x.zip(StreamFusion.B_SUB);
        Check.list("the lists below " + name, x, 21 - 50, 24 - 51);
    }
}
