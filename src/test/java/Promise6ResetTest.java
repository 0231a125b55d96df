/** Promise 6: resetThunks forgets every update and nothing else. */
public final class Promise6ResetTest {
    /** Node 0 is INT 6, 1 raises 10, 2 a pair of node 0 with itself; then every kind that can be reset, over them. */
    private static ImpreciseRaise everyThunk() {
        ImpreciseRaise x = new ImpreciseRaise(16);
        x.addNode(ImpreciseRaise.K_CONST, 6, 0, 0);
        x.addNode(ImpreciseRaise.K_RAISE, 10, 0, 0);
        x.addNode(ImpreciseRaise.K_PAIR, 0, 2, 0);
        for (int kind = ImpreciseRaise.K_ADD; kind <= ImpreciseRaise.K_LT; kind++) {
            x.addNode(kind, 0, 0, 0);
        }
        x.addNode(ImpreciseRaise.K_IF, 0, 0, 0);
        x.addNode(ImpreciseRaise.K_IF, 0, 2, 0);
        x.addNode(ImpreciseRaise.K_SEQ, 0, 0, 0);
        x.addNode(ImpreciseRaise.K_SEQ, 0, 2, 0);
        x.addNode(ImpreciseRaise.K_FST, 2, 0, 0);
        x.addNode(ImpreciseRaise.K_SND, 2, 0, 0);
        return x;
    }

    private static final int[] KINDS = {1, 0, 2, 1, 1, 1, 1, 1, 1, 2, 1, 2, 1, 2};
    private static final int[] VALUES = {6, 0, 2, 12, 0, 36, 1, 0, 6, 2, 6, 2, 6, 2};

    private static void makesUnevaluated(Due due) {
        due.sentence("makes every node of kind K_ADD..K_SEQ, K_FST or K_SND unevaluated");
        ImpreciseRaise x = everyThunk();
        for (int round = 0; round < 3; round++) {
            for (int i = 3; i < 14; i++) {
                due.gives(x, i, KINDS[i], VALUES[i]);
                due.state(x, i, KINDS[i], VALUES[i]);
            }
            x.resetThunks();
            for (int i = 3; i < 14; i++) {
                due.unevaluated(x, i);
            }
        }
        for (int cap : new int[] {8, 32}) {
            ImpreciseRaise full = Sample.full(cap);
            full.run(0);
            full.resetThunks();
            for (int i = 0; i < cap - 1; i++) {
                due.unevaluated(full, i);
            }
        }
    }

    private static void evaluatedAnew(Due due) {
        due.sentence("makes every node unevaluated: it takes its script bit again");
        ImpreciseRaise x = new ImpreciseRaise(8);
        due.add(x, ImpreciseRaise.K_RAISE, 5);
        due.add(x, ImpreciseRaise.K_RAISE, 6);
        due.add(x, ImpreciseRaise.K_CONST, 1);
        due.add(x, ImpreciseRaise.K_ADD, 2, 2);
        due.add(x, ImpreciseRaise.K_ADD, 0, 1);
        due.add(x, ImpreciseRaise.K_SEQ, 3, 4);
        x.setScript(2L);
        for (int round = 0; round < 3; round++) {
            due.raises(x, 5, 6);
            due.raises(x, 5, 5);
            x.resetThunks();
        }
    }

    private static void neverRefused(Due due) {
        due.sentence("It is never refused");
        ImpreciseRaise fresh = new ImpreciseRaise(8);
        fresh.resetThunks();
        Twins.same(due, fresh, new ImpreciseRaise(8));
        ImpreciseRaise x = Sample.everyKind();
        x.run(12);
        x.resetThunks();
        x.resetThunks();
        for (int i : new int[] {2, 3, 4, 5, 6, 7, 8, 10, 11, 12}) {
            due.unevaluated(x, i);
        }
    }

    private static void leavesStay(Due due) {
        due.sentence("the state of K_CONST and K_PAIR nodes (always INT a and PAIR i)");
        ImpreciseRaise x = new ImpreciseRaise(8);
        due.add(x, ImpreciseRaise.K_PAIR, 7, 7);
        due.add(x, ImpreciseRaise.K_CONST, 0);
        due.add(x, ImpreciseRaise.K_CONST, -1);
        due.add(x, ImpreciseRaise.K_PAIR, 3, 3);
        for (int round = 0; round < 2; round++) {
            x.resetThunks();
            due.state(x, 0, ImpreciseRaise.R_PAIR, 0);
            due.state(x, 1, ImpreciseRaise.R_INT, 0);
            due.state(x, 2, ImpreciseRaise.R_INT, -1);
            due.state(x, 3, ImpreciseRaise.R_PAIR, 3);
            x.run(round);
        }
        due.sentence("K_RAISE nodes, which are unevaluated anyway");
        ImpreciseRaise y = everyThunk();
        y.resetThunks();
        due.unevaluated(y, 1);
        due.raises(y, 1, 10);
        y.resetThunks();
        due.unevaluated(y, 1);
        due.raises(y, 1, 10);
    }

    private static void restStays(Due due) {
        due.sentence("the nodes, count, the script and the last* answers");
        for (int root : new int[] {-1, 0, 1, 2, 3, 9, 13}) {
            ImpreciseRaise x = everyThunk();
            x.setScript(-21L);
            x.run(root);
            // The twin never held an update, so it has what is due once they are gone.
            ImpreciseRaise twin = everyThunk();
            twin.setScript(-21L);
            int outcome = x.lastOutcome();
            int value = x.lastValue();
            int exception = x.lastException();
            x.resetThunks();
            due.last(x, outcome, value, exception);
            due.is("script()", x.script(), -21);
            due.is("nodeCount()", x.nodeCount(), 14);
            due.is("capacity()", x.capacity(), 16);
            Twins.same(due, x, twin, "lastOutcome()", "lastValue()", "lastException()");
            x.run(0);
            twin.run(0);
            Twins.sameEverAfter(due, x, twin);
        }
    }

    private static void onlyWay(Due due) {
        due.sentence("This is the only way a node that holds INT or PAIR goes back to unevaluated");
        ImpreciseRaise x = everyThunk();
        for (int i = 3; i < 14; i++) {
            x.run(i);
        }
        for (int call = 0; call < 6; call++) {
            switch (call) {
                case 0 -> x.run(1);
                case 1 -> x.run(-1);
                case 2 -> x.setScript(-1L);
                case 3 -> x.addNode(ImpreciseRaise.K_ADD, 14, 1, 0);
                case 4 -> x.addNode(ImpreciseRaise.K_ADD, 16, 1, 0);
                default -> x.run(14);
            }
            for (int i = 3; i < 14; i++) {
                due.state(x, i, KINDS[i], VALUES[i]);
            }
        }
    }

    public static void main(String[] args) {
        Due due = new Due("Promise6ResetTest");
        makesUnevaluated(due);
        evaluatedAnew(due);
        neverRefused(due);
        leavesStay(due);
        restStays(due);
        onlyWay(due);
        due.end();
    }
}
