/** Promise 5: the last answers tell of the last accepted run and of nothing else. */
public final class Promise5LastTest {
    private static void unmoved(Due due, ImpreciseRaise x, int outcome, int value, int exception) {
        for (int round = 0; round < 2; round++) {
            due.last(x, outcome, value, exception);
        }
        due.is("run(-1)", x.run(-1), ImpreciseRaise.R_NONE);
        due.is("run(count)", x.run(x.nodeCount()), ImpreciseRaise.R_NONE);
        x.resetThunks();
        x.setScript(3L);
        x.addNode(12, 0, 0, 0);
        x.denKind(0);
        due.last(x, outcome, value, exception);
    }

    public static void main(String[] args) {
        Due due = new Due("Promise5LastTest");
        ImpreciseRaise x = new ImpreciseRaise(8);
        unmoved(due, x, ImpreciseRaise.R_NONE, 0, 0);
        due.add(x, ImpreciseRaise.K_CONST, -5);
        due.add(x, ImpreciseRaise.K_RAISE, 13);
        due.add(x, ImpreciseRaise.K_PAIR, 0, 1);
        due.add(x, ImpreciseRaise.K_SND, 2);
        due.add(x, ImpreciseRaise.K_CONST, 0);
        unmoved(due, x, ImpreciseRaise.R_NONE, 0, 0);
        due.gives(x, 0, ImpreciseRaise.R_INT, -5);
        unmoved(due, x, ImpreciseRaise.R_INT, -5, 0);
        due.raises(x, 3, 13);
        unmoved(due, x, ImpreciseRaise.R_EXC, 0, 13);
        due.gives(x, 2, ImpreciseRaise.R_PAIR, 2);
        unmoved(due, x, ImpreciseRaise.R_PAIR, 2, 0);
        due.raises(x, 1, 13);
        due.gives(x, 4, ImpreciseRaise.R_INT, 0);
        unmoved(due, x, ImpreciseRaise.R_INT, 0, 0);
        due.end();
    }
}
