/**
 * A small lazy graph with imprecise exceptions, seen in two ways: a machine that evaluates a root
 * by graph reduction, and a denotation that gives each node a value or a set of exceptions.
 */
public final class ImpreciseRaise {
    public static final int K_CONST = 0;
    public static final int K_RAISE = 1;
    public static final int K_ADD = 2;
    public static final int K_SUB = 3;
    public static final int K_MUL = 4;
    public static final int K_DIV = 5;
    public static final int K_LT = 6;
    public static final int K_IF = 7;
    public static final int K_SEQ = 8;
    public static final int K_PAIR = 9;
    public static final int K_FST = 10;
    public static final int K_SND = 11;
    public static final int EXC_DIVZERO = 1;
    public static final int EXC_TYPE = 2;
    public static final int EXC_LOOP = 3;
    public static final int EXC_MISSING = 4;
    public static final int EXC_USER_MIN = 5;
    public static final int EXC_USER_MAX = 15;
    public static final int ALL_EXC = 0xFFFE;
    public static final int R_NONE = 0;
    public static final int R_INT = 1;
    public static final int R_PAIR = 2;
    public static final int R_EXC = 3;
    public static final int ST_UNEVAL = 3;
    public static final int MIN_CAP = 8;
    public static final int MAX_CAP = 32;

    private static final int REFUSED = -1;
    private static final int NO_KIND = -1;
    private static final int NO_REFERENCE = -1;
    private static final int NO_NODE = -1;

    // A method can answer one number only, so an outcome is packed into a long: its kind (R_INT,
    // R_PAIR, R_EXC) above 32 bits of payload. The payload of R_EXC is a code in the machine and
    // a mask of codes in a denotation.
    private static final int KIND_SHIFT = 32;
    private static final long PAYLOAD_BITS = 0xFFFFFFFFL;
    private static final long NOTHING = 0L;
    private static final long UNEVALUATED = (long) ST_UNEVAL << KIND_SHIFT;

    private static final int LAST_SCRIPT_BIT = 63;

    // How far the evaluation of a node has come in this run; every stage but IDLE is active.
    private static final int IDLE = 0;
    private static final int ENTERED = 1;
    private static final int AWAITS_FIRST = 2;
    private static final int AWAITS_LAST = 3;

    // A run enters a node at most once and resumes it once in each of its three active stages,
    // so no run needs more than 3 * MAX_CAP steps.
    private static final int MAX_STEPS = 32 * MAX_CAP;

    // Denotations only grow, and one can change at most 15 times (a set loses a code each time, or
    // ALL_EXC becomes a value), so 15 * MAX_CAP rounds with a change are the most there can be.
    private static final int MAX_ROUNDS = 32 * MAX_CAP;

    private final int cap;
    private int count = 0;
    private long scriptWord = 0L;
    private long lastAnswer = NOTHING;

    private final int[] kinds = new int[MAX_CAP];
    private final int[] firsts = new int[MAX_CAP];
    private final int[] seconds = new int[MAX_CAP];
    private final int[] thirds = new int[MAX_CAP];
    private final long[] states = new long[MAX_CAP];
    private final long[] denotations = new long[MAX_CAP];
    private final long[] nextDenotations = new long[MAX_CAP];

    // The active nodes of a run, linked from the innermost one to the node that demanded it and so
    // on outwards: the stack that recursion would have used, with no bound of its own to run over.
    private int innermost = NO_NODE;
    private final int[] demandedBy = new int[MAX_CAP];
    private final int[] stages = new int[MAX_CAP];
    // Stays false for a node that is not binary: such a node looks at its first reference first.
    private final boolean[] rightFirst = new boolean[MAX_CAP];
    private final long[] earlierOperands = new long[MAX_CAP];
    private int scriptPosition = 0;
    private long answer = NOTHING;

    public ImpreciseRaise(int capacity) {
        cap = capacity < MIN_CAP ? MIN_CAP : (capacity > MAX_CAP ? MAX_CAP : capacity);
    }

    public int addNode(int kind, int a, int b, int c) {
        if (refusesNode(kind, a, b, c)) {
            return REFUSED;
        }
        int index = count;
        kinds[index] = kind;
        firsts[index] = a;
        seconds[index] = b;
        thirds[index] = c;
        states[index] = initialState(index);
        count = index + 1;
        solveDenotations();
        return index;
    }

    public void setScript(long bits) {
        scriptWord = bits;
    }

    public long script() {
        return scriptWord;
    }

    public int run(int root) {
        if (!isNode(root)) {
            return R_NONE;
        }
        evaluate(root);
        leaveActiveNodes();
        lastAnswer = answer;
        return kindOf(lastAnswer);
    }

    public int lastOutcome() {
        return kindOf(lastAnswer);
    }

    public int lastException() {
        return exceptionOf(lastAnswer);
    }

    public int lastValue() {
        return valueOf(lastAnswer);
    }

    public void resetThunks() {
        for (int i = 0; i < count; i++) {
            states[i] = initialState(i);
        }
    }

    public int nodeCount() {
        return count;
    }

    public int capacity() {
        return cap;
    }

    public int nodeKind(int i) {
        return isNode(i) ? kinds[i] : NO_KIND;
    }

    public int nodeState(int i) {
        return isNode(i) ? kindOf(states[i]) : R_NONE;
    }

    public int nodeValue(int i) {
        return isNode(i) ? valueOf(states[i]) : 0;
    }

    public int denKind(int i) {
        return isNode(i) ? kindOf(denotations[i]) : R_NONE;
    }

    public int denSet(int i) {
        return isNode(i) ? exceptionOf(denotations[i]) : 0;
    }

    public int denValue(int i) {
        return isNode(i) ? valueOf(denotations[i]) : 0;
    }

    // ---- packed outcomes ----

    private static long outcome(int kind, int payload) {
        return ((long) kind << KIND_SHIFT) | (payload & PAYLOAD_BITS);
    }

    private static int kindOf(long outcome) {
        return (int) (outcome >>> KIND_SHIFT);
    }

    private static int payloadOf(long outcome) {
        return (int) outcome;
    }

    private static int exceptionOf(long outcome) {
        return outcome >>> KIND_SHIFT == R_EXC ? (int) outcome : 0;
    }

    private static int valueOf(long outcome) {
        return outcome >>> KIND_SHIFT == R_EXC ? 0 : (int) outcome;
    }

    // ---- the graph ----

    private boolean isNode(int i) {
        return i >= 0 && i < count;
    }

    private boolean isReference(int r) {
        return r >= 0 && r < cap;
    }

    private static boolean isBinary(int kind) {
        return kind >= K_ADD && kind <= K_LT;
    }

    private static int referencesUsed(int kind) {
        switch (kind) {
            case K_CONST:
            case K_RAISE:
                return 0;
            case K_FST:
            case K_SND:
                return 1;
            case K_IF:
                return 3;
            default:
                return 2;
        }
    }

    private boolean refusesNode(int kind, int a, int b, int c) {
        if (count >= cap || kind < K_CONST || kind > K_SND) {
            return true;
        }
        if (kind == K_RAISE && (a < EXC_USER_MIN || a > EXC_USER_MAX)) {
            return true;
        }
        int used = referencesUsed(kind);
        return (used >= 1 && !isReference(a))
            || (used >= 2 && !isReference(b))
            || (used >= 3 && !isReference(c));
    }

    private long initialState(int i) {
        if (kinds[i] == K_CONST) {
            return outcome(R_INT, firsts[i]);
        }
        if (kinds[i] == K_PAIR) {
            return outcome(R_PAIR, i);
        }
        return UNEVALUATED;
    }

    // ---- what both views share ----

    // Both operands must be values. An exception is answered as its code.
    private static long combine(int kind, long left, long right) {
        if (kindOf(left) == R_PAIR || kindOf(right) == R_PAIR) {
            return outcome(R_EXC, EXC_TYPE);
        }
        int x = payloadOf(left);
        int y = payloadOf(right);
        switch (kind) {
            case K_ADD:
                return outcome(R_INT, x + y);
            case K_SUB:
                return outcome(R_INT, x - y);
            case K_MUL:
                return outcome(R_INT, x * y);
            case K_DIV:
                return y == 0 ? outcome(R_EXC, EXC_DIVZERO) : outcome(R_INT, x / y);
            default:
                return outcome(R_INT, x < y ? 1 : 0);
        }
    }

    // The reference that gives the result of a K_IF, K_SEQ, K_FST or K_SND node once its first
    // reference has given a value; NO_REFERENCE if that value is of the wrong type.
    private int continuation(int n, long value) {
        int payload = payloadOf(value);
        boolean pair = kindOf(value) == R_PAIR && isNode(payload);
        switch (kinds[n]) {
            case K_SEQ:
                return seconds[n];
            case K_IF:
                return pair ? NO_REFERENCE : (payload != 0 ? seconds[n] : thirds[n]);
            case K_FST:
                return pair ? firsts[payload] : NO_REFERENCE;
            default:
                return pair ? seconds[payload] : NO_REFERENCE;
        }
    }

    // ---- the machine ----

    private void evaluate(int root) {
        scriptPosition = 0;
        innermost = NO_NODE;
        demand(root);
        for (int step = 0; step < MAX_STEPS && isNode(innermost) && kindOf(answer) != R_EXC; step++) {
            int n = innermost;
            if (stages[n] == ENTERED) {
                demandFirst(n);
            } else if (stages[n] == AWAITS_FIRST) {
                demandLast(n);
            } else {
                finish(n);
            }
        }
    }

    // Either sets the answer at once or makes n the innermost active node.
    private void demand(int n) {
        if (!isNode(n)) {
            answer = outcome(R_EXC, EXC_MISSING);
        } else if (kindOf(states[n]) != ST_UNEVAL) {
            answer = states[n];
        } else if (kinds[n] == K_RAISE) {
            answer = outcome(R_EXC, firsts[n]);
        } else if (stages[n] != IDLE) {
            answer = outcome(R_EXC, EXC_LOOP);
        } else {
            enter(n);
        }
    }

    private void enter(int n) {
        demandedBy[n] = innermost;
        innermost = n;
        stages[n] = ENTERED;
        answer = NOTHING;
    }

    private void demandFirst(int n) {
        stages[n] = AWAITS_FIRST;
        if (isBinary(kinds[n])) {
            rightFirst[n] = takeScriptBit() == 1;
        }
        demand(rightFirst[n] ? seconds[n] : firsts[n]);
    }

    private int takeScriptBit() {
        int bit = (int) (scriptWord >>> scriptPosition) & 1;
        scriptPosition = (scriptPosition + 1) & LAST_SCRIPT_BIT;
        return bit;
    }

    private void demandLast(int n) {
        stages[n] = AWAITS_LAST;
        earlierOperands[n] = answer;
        int reference = lastReference(n);
        if (reference == NO_REFERENCE) {
            answer = outcome(R_EXC, EXC_TYPE);
        } else {
            demand(reference);
        }
    }

    private int lastReference(int n) {
        if (isBinary(kinds[n])) {
            return rightFirst[n] ? firsts[n] : seconds[n];
        }
        return continuation(n, answer);
    }

    private void finish(int n) {
        if (isBinary(kinds[n])) {
            long left = rightFirst[n] ? answer : earlierOperands[n];
            long right = rightFirst[n] ? earlierOperands[n] : answer;
            answer = combine(kinds[n], left, right);
        }
        // A raising node stays active here: leaveActiveNodes leaves it unevaluated.
        if (kindOf(answer) != R_EXC) {
            states[n] = answer;
            stages[n] = IDLE;
            innermost = demandedBy[n];
        }
    }

    private void leaveActiveNodes() {
        for (int i = 0; i < count; i++) {
            stages[i] = IDLE;
        }
    }

    // ---- the denotation ----

    // Solved afresh whenever the graph grows, because a new node can change what older ones denote.
    private void solveDenotations() {
        for (int i = 0; i < count; i++) {
            denotations[i] = outcome(R_EXC, ALL_EXC);
        }
        boolean changed = true;
        for (int round = 0; changed && round < MAX_ROUNDS; round++) {
            for (int i = 0; i < count; i++) {
                nextDenotations[i] = equation(i);
            }
            changed = takeNextDenotations();
        }
    }

    // Answers whether the round changed anything.
    private boolean takeNextDenotations() {
        boolean changed = false;
        for (int i = 0; i < count; i++) {
            changed = changed || nextDenotations[i] != denotations[i];
            denotations[i] = nextDenotations[i];
        }
        return changed;
    }

    private long equation(int i) {
        int kind = kinds[i];
        if (kind == K_CONST || kind == K_PAIR) {
            return initialState(i);
        }
        if (kind == K_RAISE) {
            return singleton(firsts[i]);
        }
        long first = denotationOf(firsts[i]);
        if (isBinary(kind)) {
            long second = denotationOf(seconds[i]);
            return combineDenotations(kind, first, second);
        }
        if (kindOf(first) == R_EXC) {
            return first;
        }
        int reference = continuation(i, first);
        return reference == NO_REFERENCE ? singleton(EXC_TYPE) : denotationOf(reference);
    }

    private static long combineDenotations(int kind, long left, long right) {
        int leftSet = exceptionOf(left);
        int rightSet = exceptionOf(right);
        if (leftSet != 0 || rightSet != 0) {
            return outcome(R_EXC, leftSet | rightSet);
        }
        long combined = combine(kind, left, right);
        int code = exceptionOf(combined);
        return code == 0 ? combined : singleton(code);
    }

    private long denotationOf(int reference) {
        return isNode(reference) ? denotations[reference] : singleton(EXC_MISSING);
    }

    private static long singleton(int code) {
        return outcome(R_EXC, 1 << code);
    }
}
