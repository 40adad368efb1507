import java.util.ArrayList;
import java.util.HashMap;
import java.util.List;
import java.util.Map;

/**
 * The document once more, word for word and in another way than the program: trees, recursion, and
 * an environment that gives every bound source its element.
 */
final class Model {
    private static final class Node {
        final String kind;
        final int op;
        final int arg;
        final Node a;
        final Node b;
        Node binder;

        Node(String kind, int op, int arg, Node a, Node b) {
            this.kind = kind;
            this.op = op;
            this.arg = arg;
            this.a = a;
            this.b = b;
        }

        int size() {
            return 1 + (a == null ? 0 : a.size()) + (b == null ? 0 : b.size());
        }

        int concats() {
            return (kind.equals("concatMap") ? 1 : 0) + (a == null ? 0 : a.concats()) + (b == null ? 0 : b.concats());
        }

        void freeInners(List<Node> found) {
            if (kind.equals("inner") && binder == null) {
                found.add(this);
            }
            if (a != null) {
                a.freeInners(found);
            }
            if (b != null) {
                b.freeInners(found);
            }
        }

        boolean open() {
            List<Node> found = new ArrayList<>();
            freeInners(found);
            return !found.isEmpty();
        }
    }

    final int heap;
    final List<Node> stack = new ArrayList<>();
    List<Integer> result = new ArrayList<>();
    int cells = 0;
    private int spent;

    Model(int heapCap) {
        heap = Math.max(8, Math.min(256, heapCap));
    }

    int nodes() {
        return stack.stream().mapToInt(Node::size).sum();
    }

    int range(int start, int len) {
        return source("range", start, len);
    }

    int inner(int off, int cap) {
        return source("inner", off, cap);
    }

    int map(int op, int k) {
        return unary("map", op, 8, k);
    }

    int filter(int op, int k) {
        return unary("filter", op, 6, k);
    }

    int take(int n) {
        return unary("take", 0, 0, n);
    }

    int drop(int n) {
        return unary("drop", 0, 0, n);
    }

    int scan(int op, int init) {
        return unary("scan", op, 6, init);
    }

    int zip(int op) {
        return binary("zip", op);
    }

    int concatMap() {
        return binary("concatMap", 0);
    }

    private int source(String kind, int arg, int length) {
        if (nodes() == 16) {
            return StreamFusion.FULL;
        }
        stack.add(new Node(kind, Math.max(0, Math.min(6, length)), arg, null, null));
        return StreamFusion.OK;
    }

    private int unary(String kind, int op, int greatestOp, int arg) {
        if (op < 0 || op > greatestOp) {
            return StreamFusion.BAD_OP;
        }
        if (stack.isEmpty()) {
            return StreamFusion.UNDERFLOW;
        }
        if (nodes() == 16) {
            return StreamFusion.FULL;
        }
        stack.add(new Node(kind, op, arg, stack.remove(stack.size() - 1), null));
        return StreamFusion.OK;
    }

    private int binary(String kind, int op) {
        if (op < 0 || op > 6) {
            return StreamFusion.BAD_OP;
        }
        if (stack.size() < 2) {
            return StreamFusion.UNDERFLOW;
        }
        if (nodes() == 16) {
            return StreamFusion.FULL;
        }
        boolean concat = kind.equals("concatMap");
        Node b = stack.get(stack.size() - 1);
        Node a = stack.get(stack.size() - 2);
        if (concat && a.concats() + b.concats() >= 2) {
            return StreamFusion.LIMIT;
        }
        Node joined = new Node(kind, op, 0, a, b);
        if (concat) {
            List<Node> free = new ArrayList<>();
            b.freeInners(free);
            free.forEach(source -> source.binder = joined);
        }
        stack.remove(stack.size() - 1);
        stack.set(stack.size() - 1, joined);
        return StreamFusion.OK;
    }

    void clear() {
        stack.clear();
        result = new ArrayList<>();
        cells = 0;
    }

    int run(int mode) {
        if (mode != 0 && mode != 1) {
            return StreamFusion.BAD_MODE;
        }
        if (stack.size() != 1 || stack.get(0).open()) {
            return StreamFusion.BAD_SHAPE;
        }
        spent = 0;
        List<Integer> list = list(stack.get(0), new HashMap<>());
        boolean tooMuch = mode == 1 && spent > heap;
        result = tooMuch ? new ArrayList<>() : list;
        cells = tooMuch || mode == 0 ? 0 : spent;
        return tooMuch ? StreamFusion.HEAP_FULL : StreamFusion.OK;
    }

    private List<Integer> list(Node n, Map<Node, Integer> given) {
        List<Integer> list = new ArrayList<>();
        List<Integer> a = n.a == null ? List.of() : list(n.a, given);
        switch (n.kind) {
            case "range" -> run(list, n.arg, n.op);
            case "inner" -> run(list, given.get(n.binder) + n.arg, Math.floorMod(given.get(n.binder), n.op + 1));
            case "map" -> a.forEach(v -> list.add(f(n.op, v, n.arg)));
            case "filter" -> a.stream().filter(v -> p(n.op, v, n.arg)).forEach(list::add);
            case "take" -> a.stream().limit(Math.max(0, n.arg)).forEach(list::add);
            case "drop" -> a.stream().skip(Math.max(0, n.arg)).forEach(list::add);
            case "scan" -> {
                int state = n.arg;
                for (int v : a) {
                    state = g(n.op, state, v);
                    list.add(state);
                }
            }
            case "zip" -> {
                List<Integer> b = list(n.b, given);
                for (int i = 0; i < Math.min(a.size(), b.size()); i++) {
                    list.add(g(n.op, a.get(i), b.get(i)));
                }
            }
            default -> {
                for (int v : a) {
                    Map<Node, Integer> more = new HashMap<>(given);
                    more.put(n, v);
                    list.addAll(list(n.b, more));
                }
            }
        }
        spent += list.size();
        return list;
    }

    private static void run(List<Integer> list, int first, int length) {
        for (int i = 0; i < length; i++) {
            list.add(first + i);
        }
    }

    static int f(int op, int x, int k) {
        return (int) switch (op) {
            case 0 -> (long) x + k;
            case 1 -> (long) x - k;
            case 2 -> (long) x * k;
            case 3 -> k == 0 ? 0L : (long) x / k;
            case 4 -> k == 0 ? 0L : (long) x % k;
            case 5 -> Math.min(x, k);
            case 6 -> Math.max(x, k);
            case 7 -> -(long) x;
            default -> (long) x * x;
        };
    }

    static boolean p(int op, int x, int k) {
        return switch (op) {
            case 0 -> (x & 1) == 0;
            case 1 -> (x & 1) == 1;
            case 2 -> x < k;
            case 3 -> x > k;
            case 4 -> x == k;
            case 5 -> x != k;
            default -> k != 0 && (long) x % k == 0;
        };
    }

    static int g(int op, int a, int b) {
        return (int) switch (op) {
            case 0 -> (long) a + b;
            case 1 -> (long) a - b;
            case 2 -> (long) a * b;
            case 3 -> Math.min(a, b);
            case 4 -> Math.max(a, b);
            case 5 -> a;
            default -> b;
        };
    }

    /** In the words of Check.state. */
    String state() {
        StringBuilder told = new StringBuilder();
        for (int i = -1; i <= 16; i++) {
            boolean there = i >= 0 && i < stack.size();
            Node n = there ? stack.get(i) : null;
            told.append(there ? 16 * n.size() + 2 * n.concats() + (n.open() ? 1 : 0) : -1).append(' ');
        }
        told.append("depth ").append(stack.size()).append(" cells ").append(cells);
        told.append(" count ").append(result.size()).append(':');
        result.forEach(value -> told.append(' ').append(value));
        return told.toString();
    }
}
