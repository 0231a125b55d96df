/** Promise 6: resetThunks forgets every update and nothing else. */
public final class Promise6ResetTest {
    public static void main(String[] args) {
        Due due = new Due("Promise6ResetTest");
        ImpreciseRaise x = new ImpreciseRaise(16);
        x.resetThunks();
        due.is("nodeCount()", x.nodeCount(), 0);
        due.add(x, ImpreciseRaise.K_CONST, 6);
        due.add(x, ImpreciseRaise.K_RAISE, 10);
        due.add(x, ImpreciseRaise.K_PAIR, 0, 0);
        for (int kind = ImpreciseRaise.K_ADD; kind <= ImpreciseRaise.K_SEQ; kind++) {
            due.add(x, kind, 0, 0, 0);
        }
        due.add(x, ImpreciseRaise.K_FST, 2);
        due.add(x, ImpreciseRaise.K_SND, 2);
        int[] values = {6, 0, 2, 12, 0, 36, 1, 0, 6, 6, 6, 6};
        x.setScript(21L);
        for (int round = 0; round < 3; round++) {
            for (int i = 3; i < 12; i++) {
                due.state(x, i, ImpreciseRaise.ST_UNEVAL, 0);
                due.gives(x, i, ImpreciseRaise.R_INT, values[i]);
                due.state(x, i, ImpreciseRaise.R_INT, values[i]);
            }
            x.run(1);
            x.resetThunks();
            due.last(x, ImpreciseRaise.R_EXC, 0, 10);
            due.is("script()", x.script(), 21);
            due.is("nodeCount()", x.nodeCount(), 12);
            due.is("capacity()", x.capacity(), 16);
            due.state(x, 0, ImpreciseRaise.R_INT, 6);
            due.state(x, 1, ImpreciseRaise.ST_UNEVAL, 0);
            due.state(x, 2, ImpreciseRaise.R_PAIR, 2);
            for (int i = 3; i < 12; i++) {
                due.denotes(x, i, ImpreciseRaise.R_INT, values[i]);
            }
        }
        due.end();
    }
}
