/** Promise 9: the equations of the denotation, one by one, and the queries in range and out of it. */
public final class Promise9DenotationTest {
    private static final int MIN = Integer.MIN_VALUE;
    private static final int MAX = Integer.MAX_VALUE;

    private static void leaves(Due due) {
        due.sentence("K_CONST: INT a");
        for (int a : Sample.ANY_INT) {
            ImpreciseRaise x = new ImpreciseRaise(8);
            due.denotes(x, due.add(x, ImpreciseRaise.K_CONST, a), ImpreciseRaise.R_INT, a);
        }
        due.sentence("K_PAIR node i: PAIR i");
        ImpreciseRaise pairs = new ImpreciseRaise(32);
        for (int i = 0; i < 32; i++) {
            due.denotes(pairs, due.add(pairs, ImpreciseRaise.K_PAIR, 31 - i, i ^ 1), ImpreciseRaise.R_PAIR, i);
        }
        due.sentence("K_RAISE: {a}");
        for (int code = 5; code <= 15; code++) {
            ImpreciseRaise x = new ImpreciseRaise(8);
            due.denotesSet(x, due.add(x, ImpreciseRaise.K_RAISE, code), 1 << code);
        }
    }

    private static void missing(Due due) {
        due.sentence("Missing reference (r >= count): {EXC_MISSING}");
        int[] kinds = {2, 3, 4, 5, 6, 7, 8, 10, 11};
        for (int kind : kinds) {
            ImpreciseRaise x = new ImpreciseRaise(8);
            for (int r : new int[] {1, 2, 7}) {
                ImpreciseRaise y = new ImpreciseRaise(8);
                due.denotesSet(y, due.add(y, kind, r, r, r), Sample.MISSING);
            }
            // Missing for as long as the node is not there, and no longer.
            due.add(x, kind, 2, 2, 2);
            due.denotesSet(x, 0, Sample.MISSING);
            due.add(x, ImpreciseRaise.K_CONST, 1);
            due.denotesSet(x, 0, Sample.MISSING);
            due.add(x, ImpreciseRaise.K_RAISE, 11);
            due.denotesSet(x, 0, 1 << 11);
        }
    }

    /** Node 0 is INT 0, 1 raises 5, 2 raises 15, 3 a pair of node 1 with itself, 4 denotes {5, 15}. */
    private static ImpreciseRaise operands() {
        ImpreciseRaise x = new ImpreciseRaise(32);
        x.addNode(ImpreciseRaise.K_CONST, 0, 0, 0);
        x.addNode(ImpreciseRaise.K_RAISE, 5, 0, 0);
        x.addNode(ImpreciseRaise.K_RAISE, 15, 0, 0);
        x.addNode(ImpreciseRaise.K_PAIR, 1, 1, 0);
        x.addNode(ImpreciseRaise.K_SUB, 1, 2, 0);
        return x;
    }

    private static void binaryDenotes(Due due, int left, int right, int set) {
        for (int kind : Sample.BINARY) {
            ImpreciseRaise x = operands();
            due.denotesSet(x, due.add(x, kind, left, right), set);
        }
    }

    private static void binarySets(Due due) {
        due.sentence("if both are sets: A | B");
        binaryDenotes(due, 1, 2, 1 << 5 | 1 << 15);
        binaryDenotes(due, 2, 1, 1 << 5 | 1 << 15);
        binaryDenotes(due, 1, 1, 1 << 5);
        binaryDenotes(due, 4, 1, 1 << 5 | 1 << 15);
        binaryDenotes(due, 31, 4, Sample.MISSING | 1 << 5 | 1 << 15);
        binaryDenotes(due, 31, 30, Sample.MISSING);

        due.sentence("if exactly one is a set: that set");
        binaryDenotes(due, 1, 0, 1 << 5);
        binaryDenotes(due, 0, 2, 1 << 15);
        binaryDenotes(due, 4, 0, 1 << 5 | 1 << 15);
        binaryDenotes(due, 31, 0, Sample.MISSING);
        binaryDenotes(due, 0, 31, Sample.MISSING);
        // Not {EXC_TYPE} either: the type is looked at only if both are values.
        binaryDenotes(due, 1, 3, 1 << 5);
        binaryDenotes(due, 3, 2, 1 << 15);

        due.sentence("if both are values: {EXC_TYPE} if either is a PAIR");
        binaryDenotes(due, 3, 0, Sample.TYPE);
        binaryDenotes(due, 0, 3, Sample.TYPE);
        binaryDenotes(due, 3, 3, Sample.TYPE);
        for (int kind : Sample.BINARY) {
            ImpreciseRaise x = new ImpreciseRaise(8);
            due.add(x, ImpreciseRaise.K_PAIR, 0, 0);
            due.add(x, ImpreciseRaise.K_CONST, 0);
            due.denotesSet(x, due.add(x, kind, 0, 0), Sample.TYPE);
            due.denotesSet(x, due.add(x, kind, 1, 0), Sample.TYPE);
            due.denotesSet(x, due.add(x, kind, 0, 1), Sample.TYPE);
        }
    }

    private static void everyCode(Due due) {
        due.sentence("if both are sets: A | B: up to every code that can be told apart from ALL_EXC");
        ImpreciseRaise x = new ImpreciseRaise(32);
        int union = due.add(x, ImpreciseRaise.K_RAISE, 5);
        int set = 1 << 5;
        for (int code = 6; code <= 15; code++) {
            int raise = due.add(x, ImpreciseRaise.K_RAISE, code);
            union = due.add(x, Sample.BINARY[code % 5], union, raise);
            set |= 1 << code;
            due.denotesSet(x, union, set);
        }
        int zero = due.add(x, ImpreciseRaise.K_CONST, 0);
        int divzero = due.add(x, ImpreciseRaise.K_DIV, zero, zero);
        int type = due.add(x, ImpreciseRaise.K_FST, zero);
        union = due.add(x, ImpreciseRaise.K_ADD, divzero, union);
        union = due.add(x, ImpreciseRaise.K_ADD, union, type);
        union = due.add(x, ImpreciseRaise.K_ADD, union, 31);
        due.denotesSet(x, union, ImpreciseRaise.ALL_EXC & ~(1 << ImpreciseRaise.EXC_LOOP));
    }

    private static void binaryValues(Due due) {
        due.sentence("else {EXC_DIVZERO} for K_DIV with B = INT 0");
        for (int dividend : new int[] {0, 1, MIN, MAX}) {
            ImpreciseRaise x = operands();
            int left = due.add(x, ImpreciseRaise.K_CONST, dividend);
            due.denotesSet(x, due.add(x, ImpreciseRaise.K_DIV, left, 0), Sample.DIVZERO);
        }
        due.sentence("else INT computed as the machine computes it, with the same wrapping, truncation and signed "
            + "comparison");
        // kind, left, right, result
        int[][] rows = {
            {2, 2, 3, 5}, {2, MAX, 1, MIN}, {3, 2, 3, -1}, {3, MIN, 1, MAX}, {4, 65536, 65536, 0}, {4, MIN, -1, MIN},
            {5, -7, 2, -3}, {5, 7, -2, -3}, {5, MIN, -1, MIN}, {5, 0, 3, 0}, {6, MIN, MAX, 1}, {6, MAX, MIN, 0},
            {6, 4, 4, 0}, {6, -1, 0, 1}, {2, 0, 0, 0}, {3, 0, 0, 0}, {4, 0, 0, 0}, {6, 0, 0, 0},
        };
        for (int[] row : rows) {
            ImpreciseRaise x = new ImpreciseRaise(8);
            due.add(x, ImpreciseRaise.K_CONST, row[1]);
            due.add(x, ImpreciseRaise.K_CONST, row[2]);
            due.denotes(x, due.add(x, row[0], 0, 1), ImpreciseRaise.R_INT, row[3]);
        }
    }

    private static void branches(Due due) {
        ImpreciseRaise x = operands();
        due.sentence("K_IF, with C = D(a): if C is a set, C");
        due.denotesSet(x, due.add(x, ImpreciseRaise.K_IF, 4, 31, 30), 1 << 5 | 1 << 15);
        due.denotesSet(x, due.add(x, ImpreciseRaise.K_IF, 1, 2, 0), 1 << 5);
        due.denotesSet(x, due.add(x, ImpreciseRaise.K_IF, 1, 0, 2), 1 << 5);
        due.denotesSet(x, due.add(x, ImpreciseRaise.K_IF, 31, 0, 0), Sample.MISSING);
        due.sentence("If C is a PAIR, {EXC_TYPE}");
        due.denotesSet(x, due.add(x, ImpreciseRaise.K_IF, 3, 0, 0), Sample.TYPE);
        due.denotesSet(x, due.add(x, ImpreciseRaise.K_IF, 3, 1, 1), Sample.TYPE);
        // PAIR 0 must not pass for INT 0.
        ImpreciseRaise y = new ImpreciseRaise(8);
        due.add(y, ImpreciseRaise.K_PAIR, 0, 0);
        due.denotesSet(y, due.add(y, ImpreciseRaise.K_IF, 0, 0, 0), Sample.TYPE);
        due.sentence("If C is INT not 0, D(b)");
        for (int c : new int[] {1, -1, 65536, MIN, MAX}) {
            int condition = due.add(x, ImpreciseRaise.K_CONST, c);
            due.denotes(x, due.add(x, ImpreciseRaise.K_IF, condition, 3, 1), ImpreciseRaise.R_PAIR, 3);
            due.denotesSet(x, due.add(x, ImpreciseRaise.K_IF, condition, 31, 0), Sample.MISSING);
        }
        due.sentence("If C is INT 0, D(c)");
        due.denotes(x, due.add(x, ImpreciseRaise.K_IF, 0, 1, 3), ImpreciseRaise.R_PAIR, 3);
        due.denotes(x, due.add(x, ImpreciseRaise.K_IF, 0, 1, 0), ImpreciseRaise.R_INT, 0);
        due.denotesSet(x, due.add(x, ImpreciseRaise.K_IF, 0, 0, 31), Sample.MISSING);
        due.denotesSet(x, due.add(x, ImpreciseRaise.K_IF, 0, 0, 4), 1 << 5 | 1 << 15);
    }

    private static void sequences(Due due) {
        ImpreciseRaise x = operands();
        due.sentence("K_SEQ, with A = D(a): if A is a set, A");
        due.denotesSet(x, due.add(x, ImpreciseRaise.K_SEQ, 1, 2), 1 << 5);
        due.denotesSet(x, due.add(x, ImpreciseRaise.K_SEQ, 4, 0), 1 << 5 | 1 << 15);
        due.denotesSet(x, due.add(x, ImpreciseRaise.K_SEQ, 31, 1), Sample.MISSING);
        due.sentence("otherwise D(b)");
        due.denotesSet(x, due.add(x, ImpreciseRaise.K_SEQ, 0, 2), 1 << 15);
        due.denotesSet(x, due.add(x, ImpreciseRaise.K_SEQ, 3, 31), Sample.MISSING);
        due.denotes(x, due.add(x, ImpreciseRaise.K_SEQ, 0, 3), ImpreciseRaise.R_PAIR, 3);
        due.denotes(x, due.add(x, ImpreciseRaise.K_SEQ, 3, 0), ImpreciseRaise.R_INT, 0);
    }

    private static void fields(Due due) {
        ImpreciseRaise x = operands();
        int pair = x.addNode(ImpreciseRaise.K_PAIR, 3, 31, 0);
        due.sentence("K_FST / K_SND, with P = D(a): if P is a set, P");
        due.denotesSet(x, due.add(x, ImpreciseRaise.K_FST, 4), 1 << 5 | 1 << 15);
        due.denotesSet(x, due.add(x, ImpreciseRaise.K_SND, 2), 1 << 15);
        due.denotesSet(x, due.add(x, ImpreciseRaise.K_SND, 31), Sample.MISSING);
        due.sentence("If P is an INT, {EXC_TYPE}");
        for (int value : new int[] {0, 3, -1}) {
            int p = due.add(x, ImpreciseRaise.K_CONST, value);
            due.denotesSet(x, due.add(x, ImpreciseRaise.K_FST, p), Sample.TYPE);
            due.denotesSet(x, due.add(x, ImpreciseRaise.K_SND, p), Sample.TYPE);
        }
        due.sentence("D of the first field of node k for K_FST, or D of the second field of node k for K_SND");
        int first = due.add(x, ImpreciseRaise.K_FST, pair);
        due.denotes(x, first, ImpreciseRaise.R_PAIR, 3);
        due.denotesSet(x, due.add(x, ImpreciseRaise.K_SND, pair), Sample.MISSING);
        due.denotesSet(x, due.add(x, ImpreciseRaise.K_FST, first), 1 << 5);
        // The pair may stand at either end of the graph.
        ImpreciseRaise edges = new ImpreciseRaise(32);
        due.add(edges, ImpreciseRaise.K_PAIR, 2, 3);
        due.add(edges, ImpreciseRaise.K_FST, 0);
        due.add(edges, ImpreciseRaise.K_CONST, 7);
        due.add(edges, ImpreciseRaise.K_RAISE, 7);
        due.add(edges, ImpreciseRaise.K_SND, 0);
        due.add(edges, ImpreciseRaise.K_FST, 31);
        due.add(edges, ImpreciseRaise.K_SND, 31);
        for (int i = 7; i < 31; i++) {
            due.add(edges, ImpreciseRaise.K_CONST, i);
        }
        due.add(edges, ImpreciseRaise.K_PAIR, 3, 2);
        due.denotes(edges, 1, ImpreciseRaise.R_INT, 7);
        due.denotesSet(edges, 4, 1 << 7);
        due.denotesSet(edges, 5, 1 << 7);
        due.denotes(edges, 6, ImpreciseRaise.R_INT, 7);
    }

    private static void rangeOf(Due due, ImpreciseRaise x, int i) {
        due.is("denKind(" + i + ")", x.denKind(i), ImpreciseRaise.R_NONE);
        due.is("denSet(" + i + ")", x.denSet(i), 0);
        due.is("denValue(" + i + ")", x.denValue(i), 0);
    }

    private static void outOfRange(Due due) {
        ImpreciseRaise[] objects = {new ImpreciseRaise(8), Sample.everyKind(), Sample.full(8), Sample.full(32)};
        due.sentence("For i not in 0..count-1: negative");
        for (ImpreciseRaise x : objects) {
            for (int i = -33; i < 0; i++) {
                rangeOf(due, x, i);
            }
            rangeOf(due, x, MIN);
        }
        due.sentence("For i not in 0..count-1: i = count");
        for (ImpreciseRaise x : objects) {
            rangeOf(due, x, x.nodeCount());
        }
        ImpreciseRaise growing = new ImpreciseRaise(32);
        for (int count = 0; count < 32; count++) {
            rangeOf(due, growing, count);
            due.add(growing, ImpreciseRaise.K_RAISE, 5);
        }
        rangeOf(due, growing, 32);
        due.sentence("For i not in 0..count-1: far beyond");
        for (ImpreciseRaise x : objects) {
            for (int i : new int[] {33, 64, 256, 65536, 1 << 24, (1 << 30) + 1, MAX - 1, MAX}) {
                rangeOf(due, x, i);
            }
        }
    }

    private static void queriesChangeNothing(Due due) {
        due.sentence("None of these queries changes anything");
        Twins.queriesChangeNothing(due, Sample::everyKind, "denKind", "denSet", "denValue");
    }

    public static void main(String[] args) {
        Due due = new Due("Promise9DenotationTest");
        leaves(due);
        missing(due);
        binarySets(due);
        everyCode(due);
        binaryValues(due);
        branches(due);
        sequences(due);
        fields(due);
        outOfRange(due);
        queriesChangeNothing(due);
        due.end();
    }
}
