/** Graphs that several tests start from. */
final class Sample {
    static final int MISSING = 1 << ImpreciseRaise.EXC_MISSING;
    static final int TYPE = 1 << ImpreciseRaise.EXC_TYPE;
    static final int DIVZERO = 1 << ImpreciseRaise.EXC_DIVZERO;
    static final int[] BINARY = {
        ImpreciseRaise.K_ADD, ImpreciseRaise.K_SUB, ImpreciseRaise.K_MUL, ImpreciseRaise.K_DIV, ImpreciseRaise.K_LT,
    };
    /** How many of a, b, c each kind uses as references. */
    static final int[] REFERENCES = {0, 0, 2, 2, 2, 2, 2, 3, 2, 2, 1, 1};
    static final int[] ANY_INT = {
        Integer.MIN_VALUE, -33, -2, -1, 0, 1, 4, 5, 7, 8, 15, 16, 31, 32, 33, 65536, Integer.MAX_VALUE,
    };

    private Sample() { }

    /**
     * Thirteen nodes in a capacity of 16, where node i up to 11 is of kind i. Nodes 4, 5 and 12 wait for 14 and 15.
     * Nodes 2, 6 and 7 hold their values, a run has been interrupted, and the last run gave INT 12.
     */
    static ImpreciseRaise everyKind() {
        ImpreciseRaise x = new ImpreciseRaise(16);
        x.addNode(ImpreciseRaise.K_CONST, 6, 0, 0);
        x.addNode(ImpreciseRaise.K_RAISE, 9, 0, 0);
        x.addNode(ImpreciseRaise.K_ADD, 0, 0, 0);
        x.addNode(ImpreciseRaise.K_SUB, 2, 0, 0);
        x.addNode(ImpreciseRaise.K_MUL, 3, 14, 0);
        x.addNode(ImpreciseRaise.K_DIV, 2, 15, 0);
        x.addNode(ImpreciseRaise.K_LT, 0, 2, 0);
        x.addNode(ImpreciseRaise.K_IF, 6, 2, 1);
        x.addNode(ImpreciseRaise.K_SEQ, 1, 0, 0);
        x.addNode(ImpreciseRaise.K_PAIR, 2, 1, 0);
        x.addNode(ImpreciseRaise.K_FST, 9, 0, 0);
        x.addNode(ImpreciseRaise.K_SND, 9, 0, 0);
        x.addNode(ImpreciseRaise.K_ADD, 1, 4, 0);
        x.setScript(5L);
        x.run(12);
        x.run(7);
        return x;
    }

    /** The same, but the last run raised EXC_MISSING. */
    static ImpreciseRaise interrupted() {
        ImpreciseRaise x = everyKind();
        x.run(4);
        return x;
    }

    /** A root for each outcome: node 0 is a pair, 1 INT 0, 2 INT -5, 3 raises 13, 4 is a pair. */
    static ImpreciseRaise outcomes() {
        ImpreciseRaise x = new ImpreciseRaise(8);
        x.addNode(ImpreciseRaise.K_PAIR, 1, 3, 0);
        x.addNode(ImpreciseRaise.K_CONST, 0, 0, 0);
        x.addNode(ImpreciseRaise.K_CONST, -5, 0, 0);
        x.addNode(ImpreciseRaise.K_RAISE, 13, 0, 0);
        x.addNode(ImpreciseRaise.K_PAIR, 2, 2, 0);
        return x;
    }

    /** A full graph of the given capacity: node 0 sums up a chain of ones that ends at the last node. */
    static ImpreciseRaise full(int capacity) {
        ImpreciseRaise x = new ImpreciseRaise(capacity);
        for (int i = 0; i < capacity - 1; i++) {
            x.addNode(ImpreciseRaise.K_ADD, i + 1, capacity - 1, 0);
        }
        x.addNode(ImpreciseRaise.K_CONST, 1, 0, 0);
        return x;
    }
}
