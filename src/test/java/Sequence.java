import java.util.ArrayList;
import java.util.List;

/**
 * Long sequences of calls, the same ones every time. A test extends this class and looks at each call right after it.
 * The first sequence with a wrong answer is the last one that is played.
 */
abstract class Sequence {
    /** The kinds and references that the nodes of a sequence lean towards, so that no way of going wrong stays rare. */
    enum Leaning {
        ANY(0, 1, 2, 3, 4, 5, 6, 7, 8, 9, 10, 11),
        VALUES(0, 0, 0, 0, 2, 3, 4, 5, 6, 7, 8, 9, 10, 11),
        WAITING(0, 0, 0, 1, 2, 3, 4, 5, 6, 7, 7, 8, 8, 9, 9, 10, 11),
        RINGS(0, 2, 3, 6, 7, 7, 7, 8, 8, 9, 9, 10, 11),
        RAISES(0, 1, 1, 1, 2, 2, 3, 4, 5, 6, 7, 8),
        PAIRS(0, 0, 7, 8, 9, 9, 9, 10, 10, 11, 11),
        CHAINS(2, 2, 2, 3, 3, 3, 4, 4, 6, 7, 8, 8, 8, 8);

        private final int[] kinds;

        Leaning(int... kinds) {
            this.kinds = kinds;
        }
    }

    private static final int FEW_CALLS = 100;
    private static final int[] CONSTANTS = {0, 0, 1, 1, 2, 3, -1, -2, Integer.MIN_VALUE, Integer.MAX_VALUE, 65537};

    protected final Due due;
    protected ImpreciseRaise x;
    private long seed = 20261115L;
    private Leaning leaning;
    // Where a chain goes on: from a node to the one before it or to the one after it.
    private int nextInChain;
    private final List<String> made = new ArrayList<>();

    Sequence(Due due) {
        this.due = due;
    }

    /** A new object stands in x, and nothing has been called yet. */
    protected void begins(int capacity) { }

    /** One more call is about to come. */
    protected void before() { }

    protected void added(int kind, int a, int b, int c, int answer) { }

    protected void ran(int root, int answer) { }

    protected void scriptSet(long bits) { }

    protected void thunksReset() { }

    /** The call is over, whichever it was. */
    protected void after() { }

    /** Many sequences in which the graph grows fast, and long ones in which it has many runs at each of its sizes. */
    final void playAll(int many, int longOnes) {
        for (int i = 0; i < many; i++) {
            play(i, 4 + pick(34), FEW_CALLS, 3);
        }
        for (int i = 0; i < longOnes; i++) {
            play(i, 8 + pick(25), 6000, 150);
        }
    }

    /** One in so many calls adds a node; the others are runs, scripts and resets. */
    final void play(int number, int capacity, int calls, int addsOneIn) {
        if (!due.allRight()) {
            return;
        }
        leaning = Leaning.values()[number % Leaning.values().length];
        nextInChain = 2 * pick(2) - 1;
        x = new ImpreciseRaise(capacity);
        made.clear();
        begins(capacity);
        while (made.size() < calls && due.allRight()) {
            before();
            made.add(pick(addsOneIn) == 0 ? add() : callBesides());
            after();
        }
        if (!due.allRight()) {
            tellCalls(capacity);
        }
    }

    /** Every call that led to the wrong answer, or of a long sequence its nodes and its last calls. */
    private void tellCalls(int capacity) {
        System.out.println("  after " + made.size() + " calls on new ImpreciseRaise(" + capacity + "):");
        for (int i = 0; i < made.size(); i++) {
            if (i >= made.size() - FEW_CALLS || made.get(i).startsWith("addNode")) {
                System.out.println("  " + (i + 1) + ". " + made.get(i));
            }
        }
    }

    /** A fixed seed: the same calls every time. */
    protected final int pick(int bound) {
        seed = seed * 6364136223846793005L + 1442695040888963407L;
        return (int) ((seed >>> 33) % bound);
    }

    protected final long pickWord() {
        return ((long) pick(1 << 30) << 34) ^ ((long) pick(1 << 30) << 17) ^ pick(1 << 30);
    }

    private String callBesides() {
        int way = pick(20);
        return way < 14 ? run() : way < 19 ? script() : reset();
    }

    private String add() {
        int kind = kind();
        int a = kind == ImpreciseRaise.K_CONST ? CONSTANTS[pick(CONSTANTS.length)]
            : kind == ImpreciseRaise.K_RAISE ? 5 + pick(11) + (pick(20) == 0 ? 20 * pick(2) - 10 : 0)
            : reference();
        int b = reference();
        int c = reference();
        int answer = x.addNode(kind, a, b, c);
        added(kind, a, b, c, answer);
        return "addNode(" + kind + ", " + a + ", " + b + ", " + c + ")";
    }

    private int kind() {
        if (pick(30) == 0) {
            return pick(20) - 4;
        }
        // A chain of one kind of thunk after the other still needs leaves to begin with and one to end at.
        boolean leaf = x.nodeCount() < 2 || x.nodeCount() == x.capacity() - 1;
        return leaning == Leaning.CHAINS && leaf ? pick(5) / 4 : leaning.kinds[pick(leaning.kinds.length)];
    }

    private int reference() {
        if (pick(40) == 0) {
            return pick(2) == 0 ? -1 - pick(3) : x.capacity() + pick(3);
        }
        int count = x.nodeCount();
        int near = switch (leaning) {
            case WAITING -> pick(2) == 0 ? count + pick(4) : pick(count + 1);
            case RINGS -> count - 3 + pick(6);
            case CHAINS -> pick(3) == 0 ? pick(2) : count + nextInChain;
            default -> pick(4) == 0 ? pick(x.capacity()) : pick(count + 1);
        };
        return Math.max(0, Math.min(x.capacity() - 1, near));
    }

    private String run() {
        int root = pick(20) == 0 ? pick(40) - 4 : pick(x.nodeCount() + 1);
        ran(root, x.run(root));
        return "run(" + root + ")";
    }

    private String script() {
        long bits = pickWord();
        x.setScript(bits);
        scriptSet(bits);
        return "setScript(" + bits + "L)";
    }

    private String reset() {
        x.resetThunks();
        thunksReset();
        return "resetThunks()";
    }
}
