import java.util.List;

/** Long sequences of calls, every answer compared with the model. */
public final class ModelTest extends Sequence {
    private final int[] outcomes = new int[4];
    private final int[] codes = new int[16];
    private Model m;
    private int calls;
    private int comparesOneIn;

    private ModelTest() {
        super(new Due("ModelTest"));
    }

    @Override
    protected void begins(int capacity) {
        m = new Model(capacity);
        compare();
        // Some sequences stay long without a query, so that no query has a chance to bring anything up to date.
        calls = 0;
        comparesOneIn = pick(2) == 0 ? 1 : 2 + pick(40);
    }

    @Override
    protected void added(int kind, int a, int b, int c, int answer) {
        due.is("addNode(" + kind + ", " + a + ", " + b + ", " + c + ")", answer, m.addNode(kind, a, b, c));
    }

    @Override
    protected void ran(int root, int answer) {
        due.is("run(" + root + ")", answer, m.run(root));
        outcomes[answer & 3]++;
        codes[m.exception]++;
    }

    @Override
    protected void scriptSet(long bits) {
        m.script = bits;
    }

    @Override
    protected void thunksReset() {
        m.resetThunks();
    }

    @Override
    protected void after() {
        calls++;
        if (calls % comparesOneIn == 0) {
            compare();
        }
    }

    private void compare() {
        due.is("capacity()", x.capacity(), m.cap);
        due.is("nodeCount()", x.nodeCount(), m.nodes.size());
        due.is("script()", x.script(), m.script);
        due.last(x, m.outcome, m.value, m.exception);
        due.outOfRange(x, -1);
        due.outOfRange(x, m.nodes.size());
        List<Model.Den> denotations = m.denotations();
        for (int i = 0; i < m.nodes.size(); i++) {
            compareNode(i, m.states.get(i), denotations.get(i));
        }
    }

    private void compareNode(int i, Model.Den state, Model.Den den) {
        due.is("nodeKind(" + i + ")", x.nodeKind(i), m.nodes.get(i).kind());
        due.state(x, i, state == null ? ImpreciseRaise.ST_UNEVAL : state.kind(), state == null ? 0 : state.n());
        if (den.set()) {
            due.denotesSet(x, i, den.n());
        } else {
            due.denotes(x, i, den.kind(), den.n());
        }
    }

    /** The mixture must really reach every outcome and every code, or it tells nothing. */
    private void reached() {
        for (int outcome = 0; outcome < 4; outcome++) {
            due.reached("outcome " + outcome, outcomes[outcome] > 0);
        }
        for (int code = 1; code < 16; code++) {
            due.reached("code " + code, codes[code] > 0);
        }
    }

    public static void main(String[] args) {
        ModelTest test = new ModelTest();
        test.playAll(4000, 18);
        test.reached();
        test.due.end();
    }
}
