import java.util.function.ToIntFunction;

/**
 * The words common to all building calls, for every call in every kind of state and behind every kind
 * of result: which refusal comes first where several would do, that a refused call changes nothing at
 * all, that an accepted one adds exactly one node, and that neither touches the result.
 */
final class BuildingCallsTest {
    private static final int MAX = Integer.MAX_VALUE;
    private static final int MIN = Integer.MIN_VALUE;
    private static final int STATES = 8;
    private static final int RESULTS = 4;

    /** A call with the answers due in the states, in the order of build(). */
    private record Row(String call, String due, ToIntFunction<StreamFusion> on) {
    }

    // The states:  0 empty, 1 one fragment, 2 two fragments, 3 two with concat counts 1 and 1,
    // 4 two with an open top of count 2, 5 one of 16 nodes, 6 two of 16 nodes with counts 1 and 1,
    // 7 fifteen or sixteen fragments of 16 nodes.
    // The answers: - OK, B BAD_OP, U UNDERFLOW, F FULL, L LIMIT.
    private static final Row[] ROWS = {
        new Row("range(5, 2)", "-----FFF", x -> x.range(5, 2)),
        new Row("range(5, -1)", "-----FFF", x -> x.range(5, -1)),
        new Row("range(5, 7)", "-----FFF", x -> x.range(5, 7)),
        new Row("inner(5, 2)", "-----FFF", x -> x.inner(5, 2)),
        new Row("inner(5, -1)", "-----FFF", x -> x.inner(5, -1)),
        new Row("inner(5, 7)", "-----FFF", x -> x.inner(5, 7)),
        new Row("map(0, 1)", "U----FFF", x -> x.map(0, 1)),
        new Row("map(8, 1)", "U----FFF", x -> x.map(8, 1)),
        new Row("map(-1, 1)", "BBBBBBBB", x -> x.map(-1, 1)),
        new Row("map(9, 1)", "BBBBBBBB", x -> x.map(9, 1)),
        new Row("map(MIN, 1)", "BBBBBBBB", x -> x.map(MIN, 1)),
        new Row("map(MAX, 1)", "BBBBBBBB", x -> x.map(MAX, 1)),
        new Row("filter(0, 1)", "U----FFF", x -> x.filter(0, 1)),
        new Row("filter(6, 1)", "U----FFF", x -> x.filter(6, 1)),
        new Row("filter(-1, 1)", "BBBBBBBB", x -> x.filter(-1, 1)),
        new Row("filter(7, 1)", "BBBBBBBB", x -> x.filter(7, 1)),
        new Row("filter(8, 1)", "BBBBBBBB", x -> x.filter(8, 1)),
        new Row("filter(MIN, 1)", "BBBBBBBB", x -> x.filter(MIN, 1)),
        new Row("filter(MAX, 1)", "BBBBBBBB", x -> x.filter(MAX, 1)),
        new Row("take(1)", "U----FFF", x -> x.take(1)),
        new Row("take(-1)", "U----FFF", x -> x.take(-1)),
        new Row("take(MAX)", "U----FFF", x -> x.take(MAX)),
        new Row("drop(1)", "U----FFF", x -> x.drop(1)),
        new Row("drop(-1)", "U----FFF", x -> x.drop(-1)),
        new Row("drop(MAX)", "U----FFF", x -> x.drop(MAX)),
        new Row("scan(0, 1)", "U----FFF", x -> x.scan(0, 1)),
        new Row("scan(6, 1)", "U----FFF", x -> x.scan(6, 1)),
        new Row("scan(-1, 1)", "BBBBBBBB", x -> x.scan(-1, 1)),
        new Row("scan(7, 1)", "BBBBBBBB", x -> x.scan(7, 1)),
        new Row("scan(8, 1)", "BBBBBBBB", x -> x.scan(8, 1)),
        new Row("scan(MIN, 1)", "BBBBBBBB", x -> x.scan(MIN, 1)),
        new Row("scan(MAX, 1)", "BBBBBBBB", x -> x.scan(MAX, 1)),
        new Row("zip(0)", "UU---UFF", x -> x.zip(0)),
        new Row("zip(6)", "UU---UFF", x -> x.zip(6)),
        new Row("zip(-1)", "BBBBBBBB", x -> x.zip(-1)),
        new Row("zip(7)", "BBBBBBBB", x -> x.zip(7)),
        new Row("zip(8)", "BBBBBBBB", x -> x.zip(8)),
        new Row("zip(MIN)", "BBBBBBBB", x -> x.zip(MIN)),
        new Row("zip(MAX)", "BBBBBBBB", x -> x.zip(MAX)),
        new Row("concatMap()", "UU-LLUFF", x -> x.concatMap()),
    };

    public static void main(String[] args) {
        shapesOfTheStates();
        for (int state = 0; state < STATES; state++) {
            for (int result = 0; result < RESULTS; result++) {
                for (Row row : ROWS) {
                    look(row, state, result);
                }
                allRefusedInARow(state, result);
            }
        }
        Check.end();
    }

    /** The table is worth something only if the states are what their numbers say. */
    private static void shapesOfTheStates() {
        Check.stack("state 0", build(0, 0));
        Check.stack("state 1", build(1, 1), "2/0/c");
        Check.stack("state 2", build(2, 2), "2/0/c", "1/0/c");
        Check.stack("state 3", build(3, 3), "4/1/c", "3/1/c");
        Check.stack("state 4", build(4, 0), "2/0/c", "5/2/o");
        Check.stack("state 5", build(5, 1), "16/0/c");
        Check.stack("state 6", build(6, 2), "4/1/c", "12/1/c");
        Check.due("N in state 7", Check.nodes(build(7, 3)), 16);
        Check.due("the depth in state 7", build(7, 3).stackDepth(), 15);
        Check.due("the depth in state 7 without a result", build(7, 0).stackDepth(), 16);
        Check.due("result 1", result(build(1, 1)), "2: 7 8 cells 8");
        Check.due("result 2", result(build(1, 2)), "3: 7 8 9 cells 0");
        Check.due("result 3", result(build(1, 3)), "0: cells 0");
    }

    private static String result(StreamFusion x) {
        StringBuilder told = new StringBuilder(x.outCount() + ": ");
        for (int i = 0; i < x.outCount(); i++) {
            told.append(x.out(i)).append(' ');
        }
        return told + "cells " + x.cellsUsed();
    }

    /** Results: 0 none, 1 of MATERIAL, 2 of FUSED, 3 emptied by HEAP_FULL. */
    private static StreamFusion build(int state, int result) {
        StreamFusion x = new StreamFusion(8);
        if (state == 0) {
            return x;
        }
        if (state == 7 && result == 0) {
            Check.fillUp(x, 0);
            return x;
        }
        x.range(7, 6);
        x.take(result == 1 ? 2 : 3);
        if (result > 0) {
            x.run(result == 2 ? StreamFusion.FUSED : StreamFusion.MATERIAL);
        }
        switch (state) {
            case 2 -> x.range(1, 4);
            case 3 -> twoConcatMaps(x);
            case 4 -> openTopOfCountTwo(x);
            case 5 -> maps(x, 14);
            case 6 -> {
                twoConcatMaps(x);
                maps(x, 9);
            }
            case 7 -> Check.fillUp(x, 2);
            default -> { }
        }
        return x;
    }

    private static void twoConcatMaps(StreamFusion x) {
        x.inner(0, 6);
        x.concatMap();
        x.range(1, 4);
        x.inner(3, 2);
        x.concatMap();
    }

    private static void openTopOfCountTwo(StreamFusion x) {
        x.inner(0, 6);
        x.inner(1, 6);
        x.concatMap();
        x.inner(2, 6);
        x.concatMap();
    }

    private static void maps(StreamFusion x, int times) {
        for (int i = 0; i < times; i++) {
            x.map(StreamFusion.F_ADD, i);
        }
    }

    private static void look(Row row, int state, int result) {
        String what = row.call() + " in state " + state + " with result " + result;
        StreamFusion x = build(state, result);
        int due = switch (row.due().charAt(state)) {
            case 'B' -> StreamFusion.BAD_OP;
            case 'U' -> StreamFusion.UNDERFLOW;
            case 'F' -> StreamFusion.FULL;
            case 'L' -> StreamFusion.LIMIT;
            default -> StreamFusion.OK;
        };
        if (due == StreamFusion.OK) {
            accepted(what, row, x);
            return;
        }
        Check.refused(what, x, due, () -> row.on().applyAsInt(x));
        Check.refused(what + " again", x, due, () -> row.on().applyAsInt(x));
        goesOnAlike(what, x, build(state, result));
    }

    private static void accepted(String what, Row row, StreamFusion x) {
        int nodes = Check.nodes(x);
        String result = Check.result(x);
        Check.due(what, row.on().applyAsInt(x), StreamFusion.OK);
        Check.due("N after " + what, Check.nodes(x), nodes + 1);
        Check.due("the result after " + what, Check.result(x), result);
    }

    private static void allRefusedInARow(int state, int result) {
        StreamFusion x = build(state, result);
        for (Row row : ROWS) {
            if (row.due().charAt(state) != '-') {
                row.on().applyAsInt(x);
            }
        }
        goesOnAlike("all refused calls in state " + state + " with result " + result, x, build(state, result));
    }

    /** What no getter tells, the nodes themselves, shows in later lists, costs and refusals. */
    private static void goesOnAlike(String what, StreamFusion x, StreamFusion untouched) {
        step("run(FUSED) after " + what, x, untouched, s -> s.run(StreamFusion.FUSED));
        step("run(MATERIAL) after " + what, x, untouched, s -> s.run(StreamFusion.MATERIAL));
        step("concatMap() after " + what, x, untouched, s -> s.concatMap());
        step("run(FUSED) of it after " + what, x, untouched, s -> s.run(StreamFusion.FUSED));
        step("range(20, 5) after " + what, x, untouched, s -> s.range(20, 5));
        step("zip(B_ADD) after " + what, x, untouched, s -> s.zip(StreamFusion.B_ADD));
        step("zip(B_ADD) again after " + what, x, untouched, s -> s.zip(StreamFusion.B_ADD));
        step("run(FUSED) of the zip after " + what, x, untouched, s -> s.run(StreamFusion.FUSED));
        step("run(MATERIAL) of the zip after " + what, x, untouched, s -> s.run(StreamFusion.MATERIAL));
        for (int i = 0; i < 17; i++) {
            step("inner(1, 1) after " + what, x, untouched, s -> s.inner(1, 1));
        }
        x.clear();
        untouched.clear();
        step("map(F_ADD, 1) after clear() and " + what, x, untouched, s -> s.map(StreamFusion.F_ADD, 1));
        step("range(1, 6) after clear() and " + what, x, untouched, s -> s.range(1, 6));
        step("take(2) after clear() and " + what, x, untouched, s -> s.take(2));
        step("run(MATERIAL) after clear() and " + what, x, untouched, s -> s.run(StreamFusion.MATERIAL));
        step("take(3) after clear() and " + what, x, untouched, s -> s.take(3));
        step("run(MATERIAL) again after clear() and " + what, x, untouched, s -> s.run(StreamFusion.MATERIAL));
    }

    private static void step(String what, StreamFusion x, StreamFusion untouched, ToIntFunction<StreamFusion> call) {
        Check.due(what, call.applyAsInt(x), call.applyAsInt(untouched));
        Check.due("the state of " + what, Check.state(x), Check.state(untouched));
    }
}
