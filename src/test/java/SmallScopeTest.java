import java.util.function.ToIntFunction;

/** Every sequence of up to five calls out of a small set, each held against the model. */
final class SmallScopeTest {
    private record Call(String name, ToIntFunction<StreamFusion> onObject, ToIntFunction<Model> onModel) {
    }

    private static final Call[] CALLS = {
        new Call("range(2, 3)", x -> x.range(2, 3), m -> m.range(2, 3)),
        new Call("inner(1, 6)", x -> x.inner(1, 6), m -> m.inner(1, 6)),
        new Call("map(F_MUL, -2)", x -> x.map(2, -2), m -> m.map(2, -2)),
        new Call("filter(P_GT, 3)", x -> x.filter(3, 3), m -> m.filter(3, 3)),
        new Call("take(2)", x -> x.take(2), m -> m.take(2)),
        new Call("drop(1)", x -> x.drop(1), m -> m.drop(1)),
        new Call("scan(B_SUB, 9)", x -> x.scan(1, 9), m -> m.scan(1, 9)),
        new Call("zip(B_SUB)", x -> x.zip(1), m -> m.zip(1)),
        new Call("concatMap()", x -> x.concatMap(), m -> m.concatMap()),
        new Call("run(FUSED)", x -> x.run(0), m -> m.run(0)),
        new Call("run(MATERIAL)", x -> x.run(1), m -> m.run(1)),
    };
    private static final int LONGEST = 5;

    public static void main(String[] args) {
        int sequences = 1;
        for (int length = 1; length <= LONGEST; length++) {
            sequences *= CALLS.length;
            for (int which = 0; which < sequences && !Check.anyWrong(); which++) {
                look(which, length);
            }
        }
        Check.end();
    }

    /** Plays one sequence. Its shorter beginnings have been looked at already, so only its end is looked at. */
    private static void look(int which, int length) {
        // The smallest heap, so that HEAP_FULL is in reach of five calls.
        StreamFusion x = new StreamFusion(8);
        Model m = new Model(8);
        StringBuilder calls = new StringBuilder();
        int got = 0;
        int want = 0;
        int rest = which;
        for (int i = 0; i < length; i++) {
            Call call = CALLS[rest % CALLS.length];
            got = call.onObject().applyAsInt(x);
            want = call.onModel().applyAsInt(m);
            calls.append(call.name()).append("; ");
            rest /= CALLS.length;
        }
        Check.due(calls.toString(), got, want);
        Check.due(calls + "the state", Check.state(x), m.state());
        // What a call did wrong out of sight shows in the list, if there is one.
        Check.due(calls + "run(FUSED)", x.run(StreamFusion.FUSED), m.run(StreamFusion.FUSED));
        Check.due(calls + "run(FUSED); the state", Check.state(x), m.state());
    }
}
