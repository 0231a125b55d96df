/** What README.md says of the class's answers: its two examples, and its tables where they name an answer. */
public final class ReadmeTest {
    private static void orderDecides(Due due) {
        ImpreciseRaise x = new ImpreciseRaise(16);
        int seven = x.addNode(ImpreciseRaise.K_RAISE, 7, 0, 0);
        int zero = x.addNode(ImpreciseRaise.K_CONST, 0, 0, 0);
        int div = x.addNode(ImpreciseRaise.K_DIV, zero, zero, 0);
        int sum = x.addNode(ImpreciseRaise.K_ADD, seven, div, 0);
        due.is("seven", seven, 0);
        due.is("zero", zero, 1);
        due.is("div", div, 2);
        due.is("sum", sum, 3);
        due.is("denKind(sum)", x.denKind(sum), ImpreciseRaise.R_EXC);
        due.is("denSet(sum)", x.denSet(sum), (1 << 7) | (1 << ImpreciseRaise.EXC_DIVZERO));
        x.setScript(0L);
        due.is("run(sum), left first", x.run(sum), ImpreciseRaise.R_EXC);
        due.is("lastException(), left first", x.lastException(), 7);
        x.setScript(1L);
        due.is("run(sum), right first", x.run(sum), ImpreciseRaise.R_EXC);
        due.is("lastException(), right first", x.lastException(), ImpreciseRaise.EXC_DIVZERO);
    }

    private static void stillToCome(Due due) {
        ImpreciseRaise y = new ImpreciseRaise(8);
        int pair = y.addNode(ImpreciseRaise.K_PAIR, 2, 7, 0);
        int fst = y.addNode(ImpreciseRaise.K_FST, pair, 0, 0);
        due.is("pair", pair, 0);
        due.is("fst", fst, 1);
        due.is("run(fst)", y.run(fst), ImpreciseRaise.R_EXC);
        due.is("lastException()", y.lastException(), ImpreciseRaise.EXC_MISSING);
        due.is("addNode", y.addNode(ImpreciseRaise.K_CONST, 5, 0, 0), 2);
        due.is("denKind(fst)", y.denKind(fst), ImpreciseRaise.R_INT);
        due.is("denValue(fst)", y.denValue(fst), 5);
        due.is("nodeState(fst)", y.nodeState(fst), ImpreciseRaise.ST_UNEVAL);
        due.is("run(fst) again", y.run(fst), ImpreciseRaise.R_INT);
        due.is("lastValue()", y.lastValue(), 5);
        due.is("nodeState(fst) after its run", y.nodeState(fst), ImpreciseRaise.R_INT);
        y.resetThunks();
        due.is("nodeState(fst) after resetThunks", y.nodeState(fst), ImpreciseRaise.ST_UNEVAL);
    }

    /** Node 0 is INT 7, 1 INT 0, 2 raises 9 and 3 a pair of nodes 0 and 2; the others stand on them. */
    private static ImpreciseRaise leaves(Due due) {
        ImpreciseRaise x = new ImpreciseRaise(32);
        due.add(x, ImpreciseRaise.K_CONST, 7);
        due.add(x, ImpreciseRaise.K_CONST, 0);
        due.add(x, ImpreciseRaise.K_RAISE, 9);
        due.add(x, ImpreciseRaise.K_PAIR, 0, 2);
        return x;
    }

    private static void kinds(Due due) {
        ImpreciseRaise x = leaves(due);
        due.gives(x, 0, ImpreciseRaise.R_INT, 7);
        due.raises(x, 2, 9);
        due.gives(x, 3, ImpreciseRaise.R_PAIR, 3);
        due.gives(x, due.add(x, ImpreciseRaise.K_ADD, 0, 0), ImpreciseRaise.R_INT, 14);
        due.gives(x, due.add(x, ImpreciseRaise.K_SUB, 1, 0), ImpreciseRaise.R_INT, -7);
        due.gives(x, due.add(x, ImpreciseRaise.K_MUL, 0, 0), ImpreciseRaise.R_INT, 49);
        due.gives(x, due.add(x, ImpreciseRaise.K_DIV, 5, 0), ImpreciseRaise.R_INT, -1);
        due.raises(x, due.add(x, ImpreciseRaise.K_DIV, 0, 1), ImpreciseRaise.EXC_DIVZERO);
        due.gives(x, due.add(x, ImpreciseRaise.K_LT, 1, 0), ImpreciseRaise.R_INT, 1);
        due.gives(x, due.add(x, ImpreciseRaise.K_LT, 0, 1), ImpreciseRaise.R_INT, 0);
        due.gives(x, due.add(x, ImpreciseRaise.K_IF, 0, 3, 2), ImpreciseRaise.R_PAIR, 3);
        due.gives(x, due.add(x, ImpreciseRaise.K_IF, 1, 2, 0), ImpreciseRaise.R_INT, 7);
        due.gives(x, due.add(x, ImpreciseRaise.K_SEQ, 3, 0), ImpreciseRaise.R_INT, 7);
        due.raises(x, due.add(x, ImpreciseRaise.K_SEQ, 2, 0), 9);
        due.gives(x, due.add(x, ImpreciseRaise.K_FST, 3), ImpreciseRaise.R_INT, 7);
        due.raises(x, due.add(x, ImpreciseRaise.K_SND, 3), 9);
    }

    private static void exceptions(Due due) {
        ImpreciseRaise x = leaves(due);
        due.raises(x, due.add(x, ImpreciseRaise.K_LT, 0, 3), ImpreciseRaise.EXC_TYPE);
        due.raises(x, due.add(x, ImpreciseRaise.K_IF, 3, 0, 0), ImpreciseRaise.EXC_TYPE);
        due.raises(x, due.add(x, ImpreciseRaise.K_SND, 0), ImpreciseRaise.EXC_TYPE);
        due.raises(x, due.add(x, ImpreciseRaise.K_SEQ, 31, 0), ImpreciseRaise.EXC_MISSING);
        int self = due.add(x, ImpreciseRaise.K_ADD, x.nodeCount(), 2);
        due.raises(x, self, ImpreciseRaise.EXC_LOOP);
        due.denotesSet(x, self, ImpreciseRaise.ALL_EXC);
        x.setScript(1L);
        due.raises(x, self, 9);
    }

    private static void calls(Due due) {
        due.is("least capacity", new ImpreciseRaise(-5).capacity(), 8);
        due.is("greatest capacity", new ImpreciseRaise(100).capacity(), 32);
        ImpreciseRaise x = new ImpreciseRaise(20);
        due.is("capacity()", x.capacity(), 20);
        due.is("script() at first", x.script(), 0);
        due.last(x, ImpreciseRaise.R_NONE, 0, 0);
        due.is("run without a node", x.run(0), ImpreciseRaise.R_NONE);
        due.outOfRange(x, 0);
        due.refuses(x, 12, 0, 0, 0);
        due.refuses(x, ImpreciseRaise.K_RAISE, 4, 0, 0);
        due.refuses(x, ImpreciseRaise.K_FST, 20, 0, 0);
        for (int i = 0; i < 20; i++) {
            due.add(x, ImpreciseRaise.K_CONST, i);
        }
        due.refuses(x, ImpreciseRaise.K_CONST, 20, 0, 0);
        due.is("nodeCount()", x.nodeCount(), 20);
    }

    public static void main(String[] args) {
        Due due = new Due("ReadmeTest");
        orderDecides(due);
        stillToCome(due);
        kinds(due);
        exceptions(due);
        calls(due);
        due.end();
    }
}
