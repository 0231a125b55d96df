/** Promise 6: only resetThunks makes a node forget its value, over many and long sequences of calls. */
public final class Promise6SequencesTest extends Sequence {
    private static final int RUN = 0;
    private static final int RAISING_RUN = 1;
    private static final int REFUSED_RUN = 2;
    private static final int ADDED = 3;
    private static final int REFUSED_NODE = 4;
    private static final int SCRIPT = 5;
    private static final int RESET = 6;

    private final int[] states = new int[ImpreciseRaise.MAX_CAP];
    private final int[] values = new int[ImpreciseRaise.MAX_CAP];
    private final int[] thunksHeldAt = new int[7];
    private int count;
    private int way;

    private Promise6SequencesTest() {
        super(new Due("Promise6SequencesTest"));
    }

    @Override
    protected void before() {
        count = x.nodeCount();
        for (int i = 0; i < count; i++) {
            states[i] = x.nodeState(i);
            values[i] = x.nodeValue(i);
        }
    }

    @Override
    protected void added(int kind, int a, int b, int c, int answer) {
        way = answer < 0 ? REFUSED_NODE : ADDED;
    }

    @Override
    protected void ran(int root, int answer) {
        way = answer == ImpreciseRaise.R_NONE ? REFUSED_RUN : answer == ImpreciseRaise.R_EXC ? RAISING_RUN : RUN;
    }

    @Override
    protected void scriptSet(long bits) {
        way = SCRIPT;
    }

    @Override
    protected void thunksReset() {
        way = RESET;
    }

    @Override
    protected void after() {
        for (int i = 0; i < count; i++) {
            int kind = x.nodeKind(i);
            boolean thunk = kind != ImpreciseRaise.K_CONST && kind != ImpreciseRaise.K_PAIR;
            if (way == RESET && thunk) {
                due.unevaluated(x, i);
            } else if (states[i] != ImpreciseRaise.ST_UNEVAL) {
                due.state(x, i, states[i], values[i]);
            }
            thunksHeldAt[way] += thunk && states[i] != ImpreciseRaise.ST_UNEVAL ? 1 : 0;
        }
    }

    /** Every sort of call must really have met nodes that could have lost their values. */
    private void reached() {
        for (int i = 0; i < thunksHeldAt.length; i++) {
            due.reached("thunks held at calls of sort " + i, thunksHeldAt[i] > 1000);
        }
    }

    public static void main(String[] args) {
        Promise6SequencesTest test = new Promise6SequencesTest();
        test.due.sentence("This is the only way a node that holds INT or PAIR goes back to unevaluated");
        test.playAll(6000, 60);
        test.play(1, 32, 100000, 2000);
        test.reached();
        test.due.end();
    }
}
