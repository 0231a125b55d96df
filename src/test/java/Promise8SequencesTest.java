/** Promise 8: a held value is the denoted one at every moment, over many and long sequences of calls. */
public final class Promise8SequencesTest extends Sequence {
    private final int[] heldAs = new int[4];
    private int heldAtNewNodes = 0;

    private Promise8SequencesTest() {
        super(new Due("Promise8SequencesTest"));
    }

    @Override
    protected void added(int kind, int a, int b, int c, int answer) {
        for (int i = 0; i < answer; i++) {
            heldAtNewNodes += holdsUpdate(i) ? 1 : 0;
        }
    }

    private boolean holdsUpdate(int i) {
        boolean thunk = x.nodeKind(i) != ImpreciseRaise.K_CONST && x.nodeKind(i) != ImpreciseRaise.K_PAIR;
        return thunk && x.nodeState(i) != ImpreciseRaise.ST_UNEVAL;
    }

    @Override
    protected void after() {
        due.statesAgree(x);
        for (int i = 0; i < x.nodeCount(); i++) {
            heldAs[x.nodeState(i) & 3] += holdsUpdate(i) ? 1 : 0;
        }
    }

    /** Updates of both sorts must really have been there to look at, also when the graph grew. */
    private void reached() {
        due.reached("updates with an INT", heldAs[ImpreciseRaise.R_INT] > 1000);
        due.reached("updates with a PAIR", heldAs[ImpreciseRaise.R_PAIR] > 1000);
        due.reached("updates held while a node was added", heldAtNewNodes > 1000);
    }

    public static void main(String[] args) {
        Promise8SequencesTest test = new Promise8SequencesTest();
        test.due.sentence("At every moment, for every i in 0..count-1 whose nodeState is not ST_UNEVAL, nodeState(i) "
            + "equals denKind(i) and nodeValue(i) equals denValue(i)");
        test.playAll(6000, 60);
        test.play(1, 32, 100000, 2000);
        test.reached();
        test.due.end();
    }
}
