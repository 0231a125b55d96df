/** Promise 4: FORCE, the script's order, interruption and updates. */
public final class Promise4RunTest {
    private static final int MIN = Integer.MIN_VALUE;
    private static final int MAX = Integer.MAX_VALUE;

    // kind, left, right, result
    private static final int[][] ARITHMETIC = {
        {ImpreciseRaise.K_ADD, 2, 3, 5}, {ImpreciseRaise.K_ADD, MAX, 1, MIN}, {ImpreciseRaise.K_ADD, MIN, -1, MAX},
        {ImpreciseRaise.K_SUB, 2, 3, -1}, {ImpreciseRaise.K_SUB, MIN, 1, MAX}, {ImpreciseRaise.K_SUB, 0, MIN, MIN},
        {ImpreciseRaise.K_MUL, -4, 3, -12}, {ImpreciseRaise.K_MUL, 65536, 65536, 0}, {ImpreciseRaise.K_MUL, MIN, -1, MIN},
        {ImpreciseRaise.K_DIV, 7, 2, 3}, {ImpreciseRaise.K_DIV, -7, 2, -3}, {ImpreciseRaise.K_DIV, 7, -2, -3},
        {ImpreciseRaise.K_DIV, -7, -2, 3}, {ImpreciseRaise.K_DIV, MIN, -1, MIN}, {ImpreciseRaise.K_DIV, 0, 5, 0},
        {ImpreciseRaise.K_LT, 1, 2, 1}, {ImpreciseRaise.K_LT, 2, 2, 0}, {ImpreciseRaise.K_LT, 3, 2, 0},
        {ImpreciseRaise.K_LT, -1, 0, 1}, {ImpreciseRaise.K_LT, MIN, MAX, 1}, {ImpreciseRaise.K_LT, MAX, MIN, 0},
    };

    private static void arithmetic(Due due) {
        for (int[] row : ARITHMETIC) {
            for (long script = 0; script <= 1; script++) {
                ImpreciseRaise x = new ImpreciseRaise(8);
                x.setScript(script);
                due.add(x, ImpreciseRaise.K_CONST, row[1]);
                due.add(x, ImpreciseRaise.K_CONST, row[2]);
                due.add(x, row[0], 0, 1);
                due.gives(x, 2, ImpreciseRaise.R_INT, row[3]);
                due.state(x, 2, ImpreciseRaise.R_INT, row[3]);
                due.denotes(x, 2, ImpreciseRaise.R_INT, row[3]);
            }
        }
    }

    private static void binaryFaults(Due due) {
        for (int kind = ImpreciseRaise.K_ADD; kind <= ImpreciseRaise.K_LT; kind++) {
            ImpreciseRaise x = new ImpreciseRaise(8);
            due.add(x, ImpreciseRaise.K_CONST, 0);
            due.add(x, ImpreciseRaise.K_PAIR, 0, 0);
            due.add(x, kind, 0, 1);
            due.add(x, kind, 1, 0);
            due.add(x, kind, 1, 1);
            due.add(x, kind, 0, 0);
            for (int i = 2; i <= 4; i++) {
                due.raises(x, i, ImpreciseRaise.EXC_TYPE);
                due.state(x, i, ImpreciseRaise.ST_UNEVAL, 0);
                due.denotesSet(x, i, 1 << ImpreciseRaise.EXC_TYPE);
            }
            if (kind == ImpreciseRaise.K_DIV) {
                due.raises(x, 5, ImpreciseRaise.EXC_DIVZERO);
                due.denotesSet(x, 5, 1 << ImpreciseRaise.EXC_DIVZERO);
            } else {
                due.gives(x, 5, ImpreciseRaise.R_INT, 0);
            }
        }
    }

    private static void refusedRoots(Due due) {
        ImpreciseRaise x = new ImpreciseRaise(8);
        due.add(x, ImpreciseRaise.K_CONST, 6);
        due.add(x, ImpreciseRaise.K_ADD, 0, 0);
        x.setScript(5L);
        due.gives(x, 1, ImpreciseRaise.R_INT, 12);
        for (int root : new int[] {MIN, -1, 2, 7, 8, 32, MAX}) {
            due.is("run(" + root + ")", x.run(root), ImpreciseRaise.R_NONE);
            due.last(x, ImpreciseRaise.R_INT, 12, 0);
            due.state(x, 1, ImpreciseRaise.R_INT, 12);
            due.is("script()", x.script(), 5);
        }
    }

    private static void leafRoots(Due due) {
        ImpreciseRaise x = new ImpreciseRaise(8);
        due.add(x, ImpreciseRaise.K_CONST, -3);
        due.add(x, ImpreciseRaise.K_RAISE, 15);
        due.add(x, ImpreciseRaise.K_PAIR, 7, 1);
        due.gives(x, 0, ImpreciseRaise.R_INT, -3);
        due.raises(x, 1, 15);
        due.gives(x, 2, ImpreciseRaise.R_PAIR, 2);
    }

    private static void branches(Due due) {
        ImpreciseRaise x = new ImpreciseRaise(16);
        due.add(x, ImpreciseRaise.K_CONST, 0);
        due.add(x, ImpreciseRaise.K_CONST, -9);
        due.add(x, ImpreciseRaise.K_RAISE, 6);
        due.add(x, ImpreciseRaise.K_PAIR, 1, 2);
        due.gives(x, due.add(x, ImpreciseRaise.K_IF, 0, 2, 1), ImpreciseRaise.R_INT, -9);
        due.gives(x, due.add(x, ImpreciseRaise.K_IF, 1, 3, 2), ImpreciseRaise.R_PAIR, 3);
        due.raises(x, due.add(x, ImpreciseRaise.K_IF, 1, 2, 3), 6);
        due.raises(x, due.add(x, ImpreciseRaise.K_IF, 3, 0, 1), ImpreciseRaise.EXC_TYPE);
        due.raises(x, due.add(x, ImpreciseRaise.K_IF, 2, 0, 1), 6);
        due.gives(x, due.add(x, ImpreciseRaise.K_SEQ, 0, 3), ImpreciseRaise.R_PAIR, 3);
        due.gives(x, due.add(x, ImpreciseRaise.K_SEQ, 3, 1), ImpreciseRaise.R_INT, -9);
        due.raises(x, due.add(x, ImpreciseRaise.K_SEQ, 2, 15), 6);
        due.raises(x, due.add(x, ImpreciseRaise.K_SEQ, 1, 15), ImpreciseRaise.EXC_MISSING);
    }

    private static void fields(Due due) {
        ImpreciseRaise x = new ImpreciseRaise(16);
        due.add(x, ImpreciseRaise.K_CONST, 11);
        due.add(x, ImpreciseRaise.K_RAISE, 8);
        due.add(x, ImpreciseRaise.K_PAIR, 0, 1);
        due.add(x, ImpreciseRaise.K_PAIR, 3, 15);
        due.gives(x, due.add(x, ImpreciseRaise.K_FST, 2), ImpreciseRaise.R_INT, 11);
        due.raises(x, due.add(x, ImpreciseRaise.K_SND, 2), 8);
        due.gives(x, due.add(x, ImpreciseRaise.K_FST, 3), ImpreciseRaise.R_PAIR, 3);
        due.raises(x, due.add(x, ImpreciseRaise.K_SND, 3), ImpreciseRaise.EXC_MISSING);
        due.raises(x, due.add(x, ImpreciseRaise.K_FST, 0), ImpreciseRaise.EXC_TYPE);
        due.raises(x, due.add(x, ImpreciseRaise.K_SND, 0), ImpreciseRaise.EXC_TYPE);
        due.raises(x, due.add(x, ImpreciseRaise.K_FST, 1), 8);
        due.gives(x, due.add(x, ImpreciseRaise.K_FST, 6), ImpreciseRaise.R_PAIR, 3);
    }

    /** A bit is taken when a binary node begins, in the order in which they begin. */
    private static void scriptOrder(Due due) {
        ImpreciseRaise x = new ImpreciseRaise(8);
        due.add(x, ImpreciseRaise.K_RAISE, 5);
        due.add(x, ImpreciseRaise.K_RAISE, 6);
        due.add(x, ImpreciseRaise.K_CONST, 1);
        due.add(x, ImpreciseRaise.K_ADD, 2, 2);
        due.add(x, ImpreciseRaise.K_SUB, 0, 1);
        due.add(x, ImpreciseRaise.K_MUL, 3, 4);
        for (int script = 0; script < 8; script++) {
            x.resetThunks();
            x.setScript(script);
            // Left first: nodes 5, 3, 4 take bits 0, 1, 2. Right first: nodes 5, 4 take 0, 1.
            boolean rightFirst = (script & 1) == 1;
            int bit = rightFirst ? (script >> 1) & 1 : (script >> 2) & 1;
            due.raises(x, 5, bit == 0 ? 5 : 6);
            due.state(x, 3, rightFirst ? ImpreciseRaise.ST_UNEVAL : ImpreciseRaise.R_INT, rightFirst ? 0 : 2);
        }
        // Node 3 keeps its value now, so it takes no bit and node 4 takes bit 1 in either order.
        due.gives(x, 3, ImpreciseRaise.R_INT, 2);
        for (int script = 0; script < 8; script++) {
            x.setScript(script);
            due.raises(x, 5, (script & 2) == 0 ? 5 : 6);
        }
    }

    private static void onlyBinaryNodesTakeBits(Due due) {
        ImpreciseRaise x = new ImpreciseRaise(16);
        due.add(x, ImpreciseRaise.K_RAISE, 5);
        due.add(x, ImpreciseRaise.K_RAISE, 6);
        due.add(x, ImpreciseRaise.K_CONST, 1);
        due.add(x, ImpreciseRaise.K_ADD, 0, 1);
        due.add(x, ImpreciseRaise.K_SEQ, 2, 3);
        due.add(x, ImpreciseRaise.K_IF, 2, 4, 0);
        due.add(x, ImpreciseRaise.K_PAIR, 5, 5);
        due.add(x, ImpreciseRaise.K_FST, 6);
        due.add(x, ImpreciseRaise.K_SND, 6);
        for (int root : new int[] {3, 4, 5, 7, 8}) {
            x.setScript(1L);
            due.raises(x, root, 6);
            x.setScript(~1L);
            due.raises(x, root, 5);
        }
    }

    /** A chain of 30 binary nodes, each leaning left: the lowest bit that is set tells where it turns right. */
    private static void bitsInTurn(Due due) {
        ImpreciseRaise x = new ImpreciseRaise(32);
        for (int i = 0; i < 30; i++) {
            due.add(x, ImpreciseRaise.K_ADD, i + 1, i % 2 == 0 ? 30 : 31);
        }
        due.add(x, ImpreciseRaise.K_RAISE, 5);
        for (int bit = 0; bit < 64; bit++) {
            x.setScript(1L << bit);
            due.raises(x, 0, bit < 30 && bit % 2 == 1 ? ImpreciseRaise.EXC_MISSING : 5);
        }
        due.denotesSet(x, 0, 1 << 5 | 1 << ImpreciseRaise.EXC_MISSING);
    }

    private static void loops(Due due) {
        int[] strict = {2, 3, 4, 5, 6, 7, 8, 10, 11};
        for (int kind : strict) {
            ImpreciseRaise x = new ImpreciseRaise(8);
            due.add(x, kind, 0, 0, 0);
            due.raises(x, 0, ImpreciseRaise.EXC_LOOP);
            due.state(x, 0, ImpreciseRaise.ST_UNEVAL, 0);
            // The node is no longer active, so the same run can be made again.
            due.raises(x, 0, ImpreciseRaise.EXC_LOOP);
            due.denotesSet(x, 0, ImpreciseRaise.ALL_EXC);
        }
        ImpreciseRaise y = new ImpreciseRaise(8);
        due.add(y, ImpreciseRaise.K_SEQ, 1, 1);
        due.add(y, ImpreciseRaise.K_IF, 2, 2, 2);
        due.add(y, ImpreciseRaise.K_ADD, 3, 0);
        due.add(y, ImpreciseRaise.K_CONST, 1);
        for (int root = 2; root >= 0; root--) {
            due.raises(y, root, ImpreciseRaise.EXC_LOOP);
        }
        // A pair is lazy: it may hold itself without a loop.
        due.add(y, ImpreciseRaise.K_PAIR, 4, 5);
        due.add(y, ImpreciseRaise.K_FST, 4);
        due.gives(y, 5, ImpreciseRaise.R_PAIR, 4);
    }

    /** An interrupted node is entered again later, and what completed before keeps its value. */
    private static void interruption(Due due) {
        ImpreciseRaise x = new ImpreciseRaise(8);
        due.add(x, ImpreciseRaise.K_CONST, 3);
        due.add(x, ImpreciseRaise.K_MUL, 0, 0);
        due.add(x, ImpreciseRaise.K_ADD, 1, 4);
        due.add(x, ImpreciseRaise.K_SEQ, 2, 2);
        due.raises(x, 3, ImpreciseRaise.EXC_MISSING);
        due.state(x, 1, ImpreciseRaise.R_INT, 9);
        due.state(x, 2, ImpreciseRaise.ST_UNEVAL, 0);
        due.state(x, 3, ImpreciseRaise.ST_UNEVAL, 0);
        due.add(x, ImpreciseRaise.K_CONST, 100);
        due.gives(x, 3, ImpreciseRaise.R_INT, 109);
        due.state(x, 2, ImpreciseRaise.R_INT, 109);
        due.state(x, 3, ImpreciseRaise.R_INT, 109);
    }

    private static void fullDepth(Due due) {
        ImpreciseRaise x = new ImpreciseRaise(32);
        for (int i = 0; i < 31; i++) {
            due.add(x, ImpreciseRaise.K_ADD, i + 1, i + 1);
        }
        due.add(x, ImpreciseRaise.K_CONST, 1);
        x.setScript(0x5555555555555555L);
        due.denotes(x, 0, ImpreciseRaise.R_INT, 1 << 31);
        due.gives(x, 0, ImpreciseRaise.R_INT, 1 << 31);
        for (int i = 0; i < 32; i++) {
            due.state(x, i, ImpreciseRaise.R_INT, 1 << (31 - i));
        }
    }

    public static void main(String[] args) {
        Due due = new Due("Promise4RunTest");
        arithmetic(due);
        binaryFaults(due);
        refusedRoots(due);
        leafRoots(due);
        branches(due);
        fields(due);
        scriptOrder(due);
        onlyBinaryNodesTakeBits(due);
        bitsInTurn(due);
        loops(due);
        interruption(due);
        fullDepth(due);
        due.end();
    }
}
