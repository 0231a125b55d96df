/** Promise 8: nodeKind, nodeState and nodeValue, in range and out of it. */
public final class Promise8NodeTest {
    public static void main(String[] args) {
        Due due = new Due("Promise8NodeTest");
        ImpreciseRaise x = new ImpreciseRaise(32);
        int[] kinds = {0, 1, 9, 2, 10, 7, 8, 11, 6};
        for (int kind : kinds) {
            due.add(x, kind, kind == 1 ? 5 : 2, 2, 2);
        }
        for (int i = 0; i < kinds.length; i++) {
            due.is("nodeKind(" + i + ")", x.nodeKind(i), kinds[i]);
            x.run(i);
            due.is("nodeKind(" + i + ") after its run", x.nodeKind(i), kinds[i]);
        }
        due.state(x, 0, ImpreciseRaise.R_INT, 2);
        due.state(x, 1, ImpreciseRaise.ST_UNEVAL, 0);
        due.state(x, 2, ImpreciseRaise.R_PAIR, 2);
        due.state(x, 3, ImpreciseRaise.ST_UNEVAL, 0);
        due.state(x, 4, ImpreciseRaise.R_PAIR, 2);
        due.state(x, 5, ImpreciseRaise.ST_UNEVAL, 0);
        due.state(x, 6, ImpreciseRaise.R_PAIR, 2);
        due.state(x, 7, ImpreciseRaise.R_PAIR, 2);
        due.state(x, 8, ImpreciseRaise.ST_UNEVAL, 0);
        for (int i : new int[] {Integer.MIN_VALUE, -33, -1, 9, 10, 31, 32, 33, Integer.MAX_VALUE}) {
            due.outOfRange(x, i);
        }
        due.end();
    }
}
