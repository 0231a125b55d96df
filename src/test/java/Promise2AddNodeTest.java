/** Promise 2: what addNode accepts and refuses, and what it leaves alone. */
public final class Promise2AddNodeTest {
    private static final int[] ODD = {Integer.MIN_VALUE, -1, 0, 7, 8, 31, 32, 33, Integer.MAX_VALUE};

    private static int referencesUsed(int kind) {
        int[] used = {0, 0, 2, 2, 2, 2, 2, 3, 2, 2, 1, 1};
        return used[kind];
    }

    private static void refused(Due due, ImpreciseRaise x, int kind, int a, int b, int c) {
        int count = x.nodeCount();
        due.is("addNode(" + kind + ", " + a + ", " + b + ", " + c + ")", x.addNode(kind, a, b, c), -1);
        due.is("nodeCount()", x.nodeCount(), count);
        due.outOfRange(x, count);
    }

    private static void kinds(Due due) {
        for (int kind : new int[] {Integer.MIN_VALUE, -1, 12, 13, Integer.MAX_VALUE}) {
            refused(due, new ImpreciseRaise(8), kind, 5, 0, 0);
        }
        for (int kind = 0; kind <= 11; kind++) {
            ImpreciseRaise x = new ImpreciseRaise(8);
            due.add(x, kind, 5, 0, 0);
            due.is("nodeKind(0)", x.nodeKind(0), kind);
        }
    }

    private static void raiseCodes(Due due) {
        for (int code = -1; code <= 17; code++) {
            ImpreciseRaise x = new ImpreciseRaise(8);
            if (code >= 5 && code <= 15) {
                due.add(x, ImpreciseRaise.K_RAISE, code, -1, 99);
                due.raises(x, 0, code);
                due.state(x, 0, ImpreciseRaise.ST_UNEVAL, 0);
            } else {
                refused(due, x, ImpreciseRaise.K_RAISE, code, 0, 0);
            }
        }
        refused(due, new ImpreciseRaise(8), ImpreciseRaise.K_RAISE, Integer.MIN_VALUE, 0, 0);
        refused(due, new ImpreciseRaise(8), ImpreciseRaise.K_RAISE, Integer.MAX_VALUE, 0, 0);
    }

    /** Every argument in turn takes odd values: refused just when the kind uses it as a reference. */
    private static void references(Due due, int cap) {
        for (int kind = 2; kind <= 11; kind++) {
            for (int place = 0; place < 3; place++) {
                for (int odd : ODD) {
                    int[] args = {0, 0, 0};
                    args[place] = odd;
                    ImpreciseRaise x = new ImpreciseRaise(cap);
                    if (place < referencesUsed(kind) && (odd < 0 || odd >= cap)) {
                        refused(due, x, kind, args[0], args[1], args[2]);
                    } else {
                        due.add(x, kind, args[0], args[1], args[2]);
                    }
                }
            }
        }
    }

    private static void constants(Due due) {
        for (int a : ODD) {
            ImpreciseRaise x = new ImpreciseRaise(8);
            due.add(x, ImpreciseRaise.K_CONST, a, -7, 1000);
            due.state(x, 0, ImpreciseRaise.R_INT, a);
            due.denotes(x, 0, ImpreciseRaise.R_INT, a);
        }
    }

    private static void startingStates(Due due) {
        ImpreciseRaise x = new ImpreciseRaise(16);
        for (int kind = 0; kind <= 11; kind++) {
            int i = due.add(x, kind, 5, 5, 5);
            if (kind == ImpreciseRaise.K_CONST) {
                due.state(x, i, ImpreciseRaise.R_INT, 5);
            } else if (kind == ImpreciseRaise.K_PAIR) {
                due.state(x, i, ImpreciseRaise.R_PAIR, i);
            } else {
                due.state(x, i, ImpreciseRaise.ST_UNEVAL, 0);
            }
        }
    }

    private static void addingLeavesTheRest(Due due) {
        ImpreciseRaise x = new ImpreciseRaise(8);
        due.add(x, ImpreciseRaise.K_CONST, 4);
        due.add(x, ImpreciseRaise.K_ADD, 0, 0);
        due.add(x, ImpreciseRaise.K_MUL, 0, 0);
        x.setScript(77L);
        due.gives(x, 1, ImpreciseRaise.R_INT, 8);
        due.add(x, ImpreciseRaise.K_CONST, 1);
        refused(due, x, ImpreciseRaise.K_ADD, 0, 8, 0);
        due.state(x, 1, ImpreciseRaise.R_INT, 8);
        due.state(x, 2, ImpreciseRaise.ST_UNEVAL, 0);
        due.is("script()", x.script(), 77);
        due.last(x, ImpreciseRaise.R_INT, 8, 0);
    }

    private static void missingUntilAdded(Due due) {
        ImpreciseRaise x = new ImpreciseRaise(8);
        due.add(x, ImpreciseRaise.K_ADD, 1, 2);
        due.denotesSet(x, 0, 1 << ImpreciseRaise.EXC_MISSING);
        due.raises(x, 0, ImpreciseRaise.EXC_MISSING);
        due.add(x, ImpreciseRaise.K_CONST, 20);
        due.raises(x, 0, ImpreciseRaise.EXC_MISSING);
        due.denotesSet(x, 0, 1 << ImpreciseRaise.EXC_MISSING);
        due.add(x, ImpreciseRaise.K_CONST, 22);
        due.denotes(x, 0, ImpreciseRaise.R_INT, 42);
        due.gives(x, 0, ImpreciseRaise.R_INT, 42);
    }

    private static void fullGraph(Due due) {
        ImpreciseRaise x = new ImpreciseRaise(8);
        for (int i = 0; i < 8; i++) {
            due.add(x, ImpreciseRaise.K_CONST, i);
        }
        for (int kind = -1; kind <= 12; kind++) {
            refused(due, x, kind, 5, 5, 5);
        }
        for (int i = 0; i < 8; i++) {
            due.state(x, i, ImpreciseRaise.R_INT, i);
        }
    }

    public static void main(String[] args) {
        Due due = new Due("Promise2AddNodeTest");
        kinds(due);
        raiseCodes(due);
        references(due, 8);
        references(due, 32);
        constants(due);
        startingStates(due);
        addingLeavesTheRest(due);
        missingUntilAdded(due);
        fullGraph(due);
        due.end();
    }
}
