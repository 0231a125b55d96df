import java.util.List;

/** Long mixed runs of calls, every answer compared with the model and with the agreement of promises 4 and 8. */
public final class ModelTest {
    private static final int OBJECTS = 4000;
    private static final int CALLS = 90;
    private static final int[] CONSTANTS = {0, 0, 1, 1, 2, 3, -1, -2, Integer.MIN_VALUE, Integer.MAX_VALUE, 65537};

    private final Due due = new Due("ModelTest");
    // A fixed seed: the same calls every time.
    private long seed = 20261115L;
    private final int[] outcomes = new int[4];
    private final int[] codes = new int[16];
    private ImpreciseRaise x;
    private Model m;

    private int pick(int bound) {
        seed = seed * 6364136223846793005L + 1442695040888963407L;
        return (int) ((seed >>> 33) % bound);
    }

    private int reference() {
        int way = pick(40);
        if (way == 0) {
            return pick(2) == 0 ? -1 - pick(3) : m.cap + pick(3);
        }
        return way < 30 && !m.nodes.isEmpty() ? pick(m.nodes.size()) : pick(m.cap);
    }

    private void add() {
        int kind = pick(30) == 0 ? pick(20) - 4 : pick(12);
        int a = kind == 0 ? CONSTANTS[pick(CONSTANTS.length)] : kind == 1 ? 4 + pick(13) : reference();
        int b = reference();
        int c = reference();
        String call = "addNode(" + kind + ", " + a + ", " + b + ", " + c + ")";
        due.is(call, x.addNode(kind, a, b, c), m.addNode(kind, a, b, c));
    }

    private void run() {
        int root = pick(20) == 0 ? pick(40) - 4 : pick(m.nodes.size() + 1);
        int answer = x.run(root);
        due.is("run(" + root + ")", answer, m.run(root));
        outcomes[answer & 3]++;
        codes[x.lastException() & 15]++;
        if (answer == ImpreciseRaise.R_EXC) {
            due.is("the raised code is denoted", (x.denSet(root) >>> x.lastException()) & 1, 1);
        } else if (answer != ImpreciseRaise.R_NONE) {
            due.denotes(x, root, answer, x.lastValue());
        }
        due.is("a value just when denSet is 0", x.denSet(root) == 0 ? 1 : 0, answer == ImpreciseRaise.R_EXC ? 0 : 1);
    }

    private void script() {
        long word = ((long) pick(1 << 30) << 34) ^ ((long) pick(1 << 30) << 17) ^ pick(1 << 30);
        x.setScript(word);
        m.script = word;
    }

    private void reset() {
        x.resetThunks();
        m.resetThunks();
    }

    private void compare() {
        due.is("capacity()", x.capacity(), m.cap);
        due.is("nodeCount()", x.nodeCount(), m.nodes.size());
        due.is("script()", x.script(), m.script);
        due.last(x, m.outcome, m.value, m.exception);
        due.outOfRange(x, -1);
        due.outOfRange(x, m.nodes.size());
        List<Model.Den> denotations = m.denotations();
        for (int i = 0; i < m.nodes.size(); i++) {
            Model.Den den = denotations.get(i);
            Model.Den state = m.states.get(i);
            due.is("nodeKind(" + i + ")", x.nodeKind(i), m.nodes.get(i).kind());
            due.state(x, i, state == null ? ImpreciseRaise.ST_UNEVAL : state.kind(), state == null ? 0 : state.n());
            if (den.set()) {
                due.denotesSet(x, i, den.n());
            } else {
                due.denotes(x, i, den.kind(), den.n());
            }
            due.is("a held value is denoted", state == null || state.equals(den) ? 1 : 0, 1);
        }
    }

    private void oneObject() {
        int capacity = 4 + pick(34);
        x = new ImpreciseRaise(capacity);
        m = new Model(capacity);
        for (int call = 0; call < CALLS; call++) {
            int way = pick(20);
            if (way < 8) {
                add();
            } else if (way < 16) {
                run();
            } else if (way < 19) {
                script();
            } else {
                reset();
            }
            compare();
        }
    }

    public static void main(String[] args) {
        ModelTest test = new ModelTest();
        // One object with wrong answers tells enough; the rest would only flood the output.
        for (int i = 0; i < OBJECTS && test.due.allRight(); i++) {
            test.oneObject();
        }
        // The mixture must really reach every outcome and every code, or it tells nothing.
        for (int outcome = 0; outcome < 4; outcome++) {
            test.due.is("outcome " + outcome + " reached", test.outcomes[outcome] > 0 ? 1 : 0, 1);
        }
        for (int code = 1; code < 16; code++) {
            test.due.is("code " + code + " reached", test.codes[code] > 0 ? 1 : 0, 1);
        }
        test.due.end();
    }
}
