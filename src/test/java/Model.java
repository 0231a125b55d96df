import java.util.ArrayList;
import java.util.Arrays;
import java.util.List;

/** The document's words written down again with recursion and Java exceptions, to compare with. */
final class Model {
    record Node(int kind, int a, int b, int c) { }

    /** Kind R_INT, R_PAIR or R_EXC; n is the int, the pair's index or the set. */
    record Den(int kind, int n) {
        boolean set() {
            return kind == ImpreciseRaise.R_EXC;
        }
    }

    static final class Raised extends Exception {
        private static final long serialVersionUID = 1L;
        final int code;

        Raised(int code) {
            super(null, null, false, false);
            this.code = code;
        }
    }

    final int cap;
    final List<Node> nodes = new ArrayList<>();
    final List<Den> states = new ArrayList<>();
    long script = 0;
    int outcome = 0;
    int value = 0;
    int exception = 0;
    private final boolean[] active = new boolean[32];
    private int pos;

    Model(int capacity) {
        cap = Math.max(8, Math.min(32, capacity));
    }

    private boolean reference(int r) {
        return 0 <= r && r < cap;
    }

    int addNode(int kind, int a, int b, int c) {
        if (nodes.size() == cap || kind < 0 || kind > 11) {
            return -1;
        }
        boolean fine = switch (kind) {
            case 0 -> true;
            case 1 -> a >= 5 && a <= 15;
            case 7 -> reference(a) && reference(b) && reference(c);
            case 10, 11 -> reference(a);
            default -> reference(a) && reference(b);
        };
        if (!fine) {
            return -1;
        }
        nodes.add(new Node(kind, a, b, c));
        states.add(null);
        resetOne(nodes.size() - 1);
        return nodes.size() - 1;
    }

    private void resetOne(int i) {
        int kind = nodes.get(i).kind;
        states.set(i, kind == 0 ? new Den(1, nodes.get(i).a) : kind == 9 ? new Den(2, i) : null);
    }

    void resetThunks() {
        for (int i = 0; i < nodes.size(); i++) {
            resetOne(i);
        }
    }

    int run(int root) {
        if (root < 0 || root >= nodes.size()) {
            return 0;
        }
        pos = 0;
        try {
            Den given = force(root);
            outcome = given.kind;
            value = given.n;
            exception = 0;
        } catch (Raised raised) {
            outcome = 3;
            value = 0;
            exception = raised.code;
        }
        Arrays.fill(active, false);
        return outcome;
    }

    private Den force(int n) throws Raised {
        if (n >= nodes.size()) {
            throw new Raised(4);
        }
        if (states.get(n) != null) {
            return states.get(n);
        }
        if (nodes.get(n).kind == 1) {
            throw new Raised(nodes.get(n).a);
        }
        if (active[n]) {
            throw new Raised(3);
        }
        active[n] = true;
        Den result = evaluate(nodes.get(n));
        active[n] = false;
        states.set(n, result);
        return result;
    }

    private Den evaluate(Node node) throws Raised {
        if (node.kind <= 6) {
            long bit = (script >>> pos) & 1;
            pos = (pos + 1) & 63;
            Den x = bit == 0 ? force(node.a) : null;
            Den y = force(node.b);
            x = bit == 0 ? x : force(node.a);
            if (x.kind == 2 || y.kind == 2) {
                throw new Raised(2);
            }
            if (node.kind == 5 && y.n == 0) {
                throw new Raised(1);
            }
            return new Den(1, compute(node.kind, x.n, y.n));
        }
        Den v = force(node.a);
        if (node.kind == 8) {
            return force(node.b);
        }
        if (v.kind != (node.kind == 7 ? 1 : 2)) {
            throw new Raised(2);
        }
        return switch (node.kind) {
            case 7 -> force(v.n != 0 ? node.b : node.c);
            case 10 -> force(nodes.get(v.n).a);
            default -> force(nodes.get(v.n).b);
        };
    }

    private static int compute(int kind, long x, long y) {
        return (int) switch (kind) {
            case 2 -> x + y;
            case 3 -> x - y;
            case 4 -> x * y;
            case 5 -> x / y;
            default -> x < y ? 1 : 0;
        };
    }

    List<Den> denotations() {
        List<Den> now = new ArrayList<>();
        for (int i = 0; i < nodes.size(); i++) {
            now.add(new Den(3, 0xFFFE));
        }
        while (true) {
            List<Den> next = round(now);
            if (next.equals(now)) {
                return now;
            }
            now = next;
        }
    }

    /** Every node recomputed from what is given for all of them. */
    List<Den> round(List<Den> now) {
        List<Den> next = new ArrayList<>();
        for (int i = 0; i < nodes.size(); i++) {
            next.add(equation(i, now));
        }
        return next;
    }

    private static Den look(int r, List<Den> now) {
        return r < now.size() ? now.get(r) : new Den(3, 1 << 4);
    }

    private Den equation(int i, List<Den> now) {
        Node node = nodes.get(i);
        if (node.kind == 0 || node.kind == 1 || node.kind == 9) {
            return node.kind == 0 ? new Den(1, node.a) : node.kind == 1 ? new Den(3, 1 << node.a) : new Den(2, i);
        }
        Den first = look(node.a, now);
        if (node.kind <= 6) {
            return binary(node.kind, first, look(node.b, now));
        }
        if (first.set()) {
            return first;
        }
        boolean pair = first.kind == 2;
        Den wrongType = new Den(3, 1 << 2);
        return switch (node.kind) {
            case 7 -> pair ? wrongType : look(first.n != 0 ? node.b : node.c, now);
            case 8 -> look(node.b, now);
            case 10 -> pair ? look(nodes.get(first.n).a, now) : wrongType;
            default -> pair ? look(nodes.get(first.n).b, now) : wrongType;
        };
    }

    private static Den binary(int kind, Den x, Den y) {
        if (x.set() && y.set()) {
            return new Den(3, x.n | y.n);
        }
        if (x.set() || y.set()) {
            return x.set() ? x : y;
        }
        if (x.kind == 2 || y.kind == 2) {
            return new Den(3, 1 << 2);
        }
        return kind == 5 && y.n == 0 ? new Den(3, 1 << 1) : new Den(1, compute(kind, x.n, y.n));
    }
}
