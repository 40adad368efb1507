/**
 * Finite list pipelines over int values, built in postfix order and run in two modes.
 *
 * Nodes are numbered from 1 in the order of the building calls. As the calls come in postfix
 * order, a fragment is always an unbroken run of nodes that ends with its root, the top fragment
 * is the last such run, and the only or upper child of a node is the node before it.
 *
 * A node inside the inner part of a concatMap has one list for each element of that concatMap's
 * outer list. All lists of a node are kept one behind the other in the node's row, so one pass
 * over the nodes evaluates the whole pipeline, and the lengths of the rows add up to the material
 * cost. No row gets longer than 216 values, for the same reason that no list does.
 */
public final class StreamFusion {
    public static final int OK = 0;
    public static final int BAD_OP = 1;
    public static final int UNDERFLOW = 2;
    public static final int FULL = 3;
    public static final int LIMIT = 4;
    public static final int BAD_MODE = 5;
    public static final int BAD_SHAPE = 6;
    public static final int HEAP_FULL = 7;
    public static final int FUSED = 0;
    public static final int MATERIAL = 1;
    public static final int MAX_NODES = 16;
    public static final int MAX_LEN = 6;
    public static final int OUT_CAP = 256;
    public static final int F_ADD = 0;
    public static final int F_SUB = 1;
    public static final int F_MUL = 2;
    public static final int F_DIV = 3;
    public static final int F_MOD = 4;
    public static final int F_MIN = 5;
    public static final int F_MAX = 6;
    public static final int F_NEG = 7;
    public static final int F_SQ = 8;
    public static final int P_EVEN = 0;
    public static final int P_ODD = 1;
    public static final int P_LT = 2;
    public static final int P_GT = 3;
    public static final int P_EQ = 4;
    public static final int P_NE = 5;
    public static final int P_DIVBY = 6;
    public static final int B_ADD = 0;
    public static final int B_SUB = 1;
    public static final int B_MUL = 2;
    public static final int B_MIN = 3;
    public static final int B_MAX = 4;
    public static final int B_FST = 5;
    public static final int B_SND = 6;

    private static final int MIN_HEAP = 8;
    private static final int MAX_HEAP = 256;
    private static final int CONCAT_LIMIT = 2;

    private static final int RANGE = 0;
    private static final int INNER = 1;
    private static final int MAP = 2;
    private static final int FILTER = 3;
    private static final int TAKE = 4;
    private static final int DROP = 5;
    private static final int SCAN = 6;
    private static final int ZIP = 7;
    private static final int CONCAT_MAP = 8;

    // Row 0 belongs to no node. It holds a single value, so that a node which no concatMap
    // repeats has exactly one list, by the same rule as the nodes that one does repeat.
    private static final int WHOLE = 0;
    private static final int ROWS = MAX_NODES + 1;
    private static final int LONGEST = MAX_LEN * MAX_LEN * MAX_LEN;
    private static final int CELLS = ROWS * OUT_CAP;

    private final int heapLimit;

    private final int[] kinds = new int[ROWS];
    // The table entry of a transformer; the length of a range and the cap of an inner source.
    private final int[] ops = new int[ROWS];
    private final int[] args = new int[ROWS];
    // The root of the lower fragment that a zip or concatMap took in.
    private final int[] lowers = new int[ROWS];
    // The row whose every value has one list of this node.
    private final int[] scopes = new int[ROWS];
    private int nodeCount = 0;

    private final int[] sizes = new int[MAX_NODES];
    private final int[] concats = new int[MAX_NODES];
    private final boolean[] opens = new boolean[MAX_NODES];
    private int depth = 0;

    private final int[] values = new int[CELLS];
    // List e of a row begins at starts[e] and ends before starts[e + 1], counted within the row.
    private final int[] starts = new int[CELLS];
    private final int[] totals = new int[ROWS];

    private final int[] result = new int[OUT_CAP];
    private int resultCount = 0;
    private int resultCells = 0;

    public StreamFusion(int heapCap) {
        heapLimit = clamp(heapCap, MIN_HEAP, MAX_HEAP);
        totals[WHOLE] = 1;
    }

    public int range(int start, int len) {
        if (nodeCount == MAX_NODES) {
            return FULL;
        }
        int length = clamp(len, 0, MAX_LEN);
        pushSource(RANGE, length, start, false);
        return OK;
    }

    public int inner(int off, int cap) {
        if (nodeCount == MAX_NODES) {
            return FULL;
        }
        int longest = clamp(cap, 0, MAX_LEN);
        pushSource(INNER, longest, off, true);
        return OK;
    }

    public int map(int op, int k) {
        if (op < F_ADD || op > F_SQ) {
            return BAD_OP;
        }
        return extendTop(MAP, op, k);
    }

    public int filter(int op, int k) {
        if (op < P_EVEN || op > P_DIVBY) {
            return BAD_OP;
        }
        return extendTop(FILTER, op, k);
    }

    public int take(int n) {
        return extendTop(TAKE, 0, n);
    }

    public int drop(int n) {
        return extendTop(DROP, 0, n);
    }

    public int scan(int op, int init) {
        if (op < B_ADD || op > B_SND) {
            return BAD_OP;
        }
        return extendTop(SCAN, op, init);
    }

    public int zip(int op) {
        if (op < B_ADD || op > B_SND) {
            return BAD_OP;
        }
        if (depth < 2) {
            return UNDERFLOW;
        }
        if (nodeCount == MAX_NODES) {
            return FULL;
        }
        boolean open = opens[depth - 2] || opens[depth - 1];
        joinTopTwo(ZIP, op);
        opens[depth - 1] = open;
        return OK;
    }

    public int concatMap() {
        if (depth < 2) {
            return UNDERFLOW;
        }
        if (nodeCount == MAX_NODES) {
            return FULL;
        }
        if (concats[depth - 2] + concats[depth - 1] >= CONCAT_LIMIT) {
            return LIMIT;
        }
        bindTop();
        joinTopTwo(CONCAT_MAP, 0);
        concats[depth - 1]++;
        return OK;
    }

    public void clear() {
        nodeCount = 0;
        depth = 0;
        resultCount = 0;
        resultCells = 0;
    }

    public int run(int mode) {
        if (mode != FUSED && mode != MATERIAL) {
            return BAD_MODE;
        }
        if (depth != 1 || opens[0]) {
            return BAD_SHAPE;
        }
        int cost = evaluatePipeline();
        if (mode == MATERIAL && cost > heapLimit) {
            resultCount = 0;
            resultCells = 0;
            return HEAP_FULL;
        }
        keepResult();
        resultCells = mode == MATERIAL ? cost : 0;
        return OK;
    }

    public int outCount() {
        return resultCount;
    }

    public int out(int i) {
        if (i < 0 || i >= resultCount) {
            return 0;
        }
        return result[i];
    }

    public int cellsUsed() {
        return resultCells;
    }

    public int stackDepth() {
        return depth;
    }

    public int fragment(int i) {
        if (i < 0 || i >= depth) {
            return -1;
        }
        return 16 * sizes[i] + 2 * concats[i] + (opens[i] ? 1 : 0);
    }

    private static int clamp(int value, int least, int greatest) {
        if (value < least) {
            return least;
        }
        return value > greatest ? greatest : value;
    }

    private void addNode(int kind, int op, int arg) {
        nodeCount++;
        kinds[nodeCount] = kind;
        ops[nodeCount] = op;
        args[nodeCount] = arg;
        scopes[nodeCount] = WHOLE;
    }

    private void pushSource(int kind, int op, int arg, boolean open) {
        addNode(kind, op, arg);
        sizes[depth] = 1;
        concats[depth] = 0;
        opens[depth] = open;
        depth++;
    }

    private int extendTop(int kind, int op, int arg) {
        if (depth == 0) {
            return UNDERFLOW;
        }
        if (nodeCount == MAX_NODES) {
            return FULL;
        }
        addNode(kind, op, arg);
        sizes[depth - 1]++;
        return OK;
    }

    private void joinTopTwo(int kind, int op) {
        int top = depth - 1;
        int lowerRoot = nodeCount - sizes[top];
        addNode(kind, op, 0);
        lowers[nodeCount] = lowerRoot;
        sizes[top - 1] += sizes[top] + 1;
        concats[top - 1] += concats[top];
        depth--;
    }

    // Every node of the top fragment is bound, not only its inner sources: all of them are
    // evaluated once for each element of the outer list.
    private void bindTop() {
        int outerRoot = nodeCount - sizes[depth - 1];
        for (int node = outerRoot + 1; node <= nodeCount; node++) {
            if (scopes[node] == WHOLE) {
                scopes[node] = outerRoot;
            }
        }
    }

    private int evaluatePipeline() {
        int cost = 0;
        for (int node = 1; node <= nodeCount; node++) {
            evaluateNode(node);
            cost += totals[node];
        }
        return cost;
    }

    private void evaluateNode(int node) {
        int row = node * OUT_CAP;
        int lists = totals[scopes[node]];
        totals[node] = 0;
        starts[row] = 0;
        for (int e = 0; e < lists; e++) {
            switch (kinds[node]) {
                case RANGE:
                    addRun(node, args[node], ops[node]);
                    break;
                case INNER:
                    addInner(node, e);
                    break;
                case MAP:
                    addMapped(node, e);
                    break;
                case FILTER:
                    addFiltered(node, e);
                    break;
                case TAKE:
                    addTaken(node, e);
                    break;
                case DROP:
                    addDropped(node, e);
                    break;
                case SCAN:
                    addScanned(node, e);
                    break;
                case ZIP:
                    addZipped(node, e);
                    break;
                default:
                    addConcatenated(node, e);
                    break;
            }
            starts[row + e + 1] = totals[node];
        }
    }

    private void addRun(int node, int first, int length) {
        for (int i = 0; i < length; i++) {
            append(node, first + i);
        }
    }

    private void addInner(int node, int e) {
        int x = values[scopes[node] * OUT_CAP + e];
        int modulus = ops[node] + 1;
        int length = (x % modulus + modulus) % modulus;
        addRun(node, x + args[node], length);
    }

    private void addMapped(int node, int e) {
        int child = (node - 1) * OUT_CAP;
        int end = starts[child + e + 1];
        for (int i = starts[child + e]; i < end; i++) {
            int mapped = unary(ops[node], values[child + i], args[node]);
            append(node, mapped);
        }
    }

    private void addFiltered(int node, int e) {
        int child = (node - 1) * OUT_CAP;
        int end = starts[child + e + 1];
        for (int i = starts[child + e]; i < end; i++) {
            if (holds(ops[node], values[child + i], args[node])) {
                append(node, values[child + i]);
            }
        }
    }

    private void addTaken(int node, int e) {
        int child = (node - 1) * OUT_CAP;
        int from = starts[child + e];
        int taken = clamp(args[node], 0, starts[child + e + 1] - from);
        addSlice(node, from, from + taken);
    }

    private void addDropped(int node, int e) {
        int child = (node - 1) * OUT_CAP;
        int from = starts[child + e];
        int end = starts[child + e + 1];
        int dropped = clamp(args[node], 0, end - from);
        addSlice(node, from + dropped, end);
    }

    private void addScanned(int node, int e) {
        int child = (node - 1) * OUT_CAP;
        int end = starts[child + e + 1];
        int state = args[node];
        for (int i = starts[child + e]; i < end; i++) {
            state = binary(ops[node], state, values[child + i]);
            append(node, state);
        }
    }

    private void addZipped(int node, int e) {
        int a = lowers[node] * OUT_CAP;
        int b = (node - 1) * OUT_CAP;
        int fromA = starts[a + e];
        int fromB = starts[b + e];
        int lengthA = starts[a + e + 1] - fromA;
        int lengthB = starts[b + e + 1] - fromB;
        int length = lengthA < lengthB ? lengthA : lengthB;
        for (int i = 0; i < length; i++) {
            int joined = binary(ops[node], values[a + fromA + i], values[b + fromB + i]);
            append(node, joined);
        }
    }

    // The inner part has one list for each value of the outer row, in the same order, so the
    // lists of those values that make up outer list e already stand one behind the other.
    private void addConcatenated(int node, int e) {
        int outerRow = lowers[node] * OUT_CAP;
        int innerRow = (node - 1) * OUT_CAP;
        int from = starts[innerRow + starts[outerRow + e]];
        int end = starts[innerRow + starts[outerRow + e + 1]];
        addSlice(node, from, end);
    }

    private void addSlice(int node, int from, int end) {
        int child = (node - 1) * OUT_CAP;
        for (int i = from; i < end; i++) {
            append(node, values[child + i]);
        }
    }

    // The limits on concatMap keep every row within LONGEST; the look at it here keeps each row
    // out of the next one even where that is not plain to see.
    private void append(int node, int value) {
        int used = totals[node];
        if (used < LONGEST) {
            values[node * OUT_CAP + used] = value;
            totals[node] = used + 1;
        }
    }

    private void keepResult() {
        int row = nodeCount * OUT_CAP;
        resultCount = totals[nodeCount];
        for (int i = 0; i < resultCount; i++) {
            result[i] = values[row + i];
        }
    }

    private static int unary(int op, int x, int k) {
        switch (op) {
            case F_ADD:
                return x + k;
            case F_SUB:
                return x - k;
            case F_MUL:
                return x * k;
            case F_DIV:
                return k == 0 ? 0 : x / k;
            case F_MOD:
                return k == 0 ? 0 : x % k;
            case F_MIN:
                return x < k ? x : k;
            case F_MAX:
                return x > k ? x : k;
            case F_NEG:
                return -x;
            default:
                return x * x;
        }
    }

    private static boolean holds(int op, int x, int k) {
        switch (op) {
            case P_EVEN:
                return x % 2 == 0;
            case P_ODD:
                return x % 2 != 0;
            case P_LT:
                return x < k;
            case P_GT:
                return x > k;
            case P_EQ:
                return x == k;
            case P_NE:
                return x != k;
            default:
                return k != 0 && x % k == 0;
        }
    }

    private static int binary(int op, int a, int b) {
        switch (op) {
            case B_ADD:
                return a + b;
            case B_SUB:
                return a - b;
            case B_MUL:
                return a * b;
            case B_MIN:
                return a < b ? a : b;
            case B_MAX:
                return a > b ? a : b;
            case B_FST:
                return a;
            default:
                return b;
        }
    }
}
