import java.util.ArrayList;
import java.util.List;

/** Promise 9: the denotations are the least solution of the equations, over many and long sequences of calls. */
public final class Promise9SequencesTest extends Sequence {
    private static final int STARTS = 6;
    // More rounds than any solution needs; from an arbitrary start the rounds may also go on for ever.
    private static final int ROUNDS = 100;

    private Model m;
    private List<Model.Den> known;
    private int otherSolutions = 0;
    private int grown = 0;

    private Promise9SequencesTest() {
        super(new Due("Promise9SequencesTest"));
    }

    @Override
    protected void begins(int capacity) {
        m = new Model(capacity);
        known = List.of();
    }

    private List<Model.Den> answers() {
        List<Model.Den> answers = new ArrayList<>();
        for (int i = 0; i < x.nodeCount(); i++) {
            int kind = x.denKind(i);
            boolean set = kind == ImpreciseRaise.R_EXC;
            due.is("the other query of " + i, set ? x.denValue(i) : x.denSet(i), 0);
            answers.add(new Model.Den(kind, set ? x.denSet(i) : x.denValue(i)));
        }
        return answers;
    }

    @Override
    protected void added(int kind, int a, int b, int c, int answer) {
        if (m.addNode(kind, a, b, c) < 0) {
            return;
        }
        List<Model.Den> before = known;
        known = answers();
        grown += known.subList(0, before.size()).equals(before) ? 0 : 1;
        due.isTrue("the answers are a solution", m.round(known).equals(known));
        due.isTrue("the answers are what the rounds from ALL_EXC end with", m.denotations().equals(known));
        for (int start = 0; start < STARTS; start++) {
            compareWithSolutionFrom(anyStart());
        }
    }

    /** Whatever the call was, the graph alone tells what the answers are. */
    @Override
    protected void after() {
        due.isTrue("the answers stay while the graph does", answers().equals(known));
    }

    private List<Model.Den> anyStart() {
        List<Model.Den> start = new ArrayList<>();
        for (int i = 0; i < known.size(); i++) {
            int other = pick(known.size());
            boolean pair = x.nodeKind(other) == ImpreciseRaise.K_PAIR;
            start.add(switch (pick(4)) {
                case 0 -> new Model.Den(ImpreciseRaise.R_EXC, 2 + 2 * pick(ImpreciseRaise.ALL_EXC / 2));
                case 1 -> pair ? new Model.Den(ImpreciseRaise.R_PAIR, other) : known.get(i);
                case 2 -> new Model.Den(ImpreciseRaise.R_INT, pick(5) - 2);
                default -> known.get(i);
            });
        }
        return start;
    }

    private void compareWithSolutionFrom(List<Model.Den> start) {
        List<Model.Den> now = start;
        for (int round = 0; round < ROUNDS; round++) {
            List<Model.Den> next = m.round(now);
            if (next.equals(now)) {
                isBelow(next);
                return;
            }
            now = next;
        }
    }

    private void isBelow(List<Model.Den> solution) {
        otherSolutions += solution.equals(known) ? 0 : 1;
        for (int i = 0; i < known.size(); i++) {
            due.isTrue(known.get(i) + " <= " + solution.get(i), below(known.get(i), solution.get(i)));
        }
    }

    private static boolean below(Model.Den low, Model.Den high) {
        if (low.set() && high.set()) {
            return (low.n() & high.n()) == high.n();
        }
        return low.set() ? low.n() == ImpreciseRaise.ALL_EXC : low.equals(high);
    }

    /** Graphs with several solutions must really have come, and nodes that changed what older ones denote. */
    private void reached() {
        due.reached("solutions other than the least", otherSolutions > 1000);
        due.reached("nodes that changed what older ones denote", grown > 1000);
    }

    public static void main(String[] args) {
        Promise9SequencesTest test = new Promise9SequencesTest();
        test.due.sentence("D is the least solution of the equations in this order");
        test.playAll(2500, 24);
        test.reached();
        test.due.end();
    }
}
