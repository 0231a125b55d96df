/** The document's first section: what the two views are, over many and long sequences of calls. */
public final class WhatItIsTest {
    /** Looks at every answer of a query after every call. */
    private static final class Answers extends Sequence {
        private final int[] pairs = new int[3];

        Answers(Due due) {
            super(due);
        }

        @Override
        protected void after() {
            isValue("last", x.lastOutcome(), x.lastValue(), x.lastException(), 0);
            for (int i = 0; i < x.nodeCount(); i++) {
                isValue("node " + i, x.nodeState(i), x.nodeValue(i), 0, 1);
                isValue("denotation of " + i, x.denKind(i), x.denValue(i), x.denSet(i), 2);
            }
        }

        private void isValue(String of, int kind, int value, int exceptions, int view) {
            if (kind == ImpreciseRaise.R_PAIR) {
                due.is("nodeKind of the pair: " + of, x.nodeKind(value), ImpreciseRaise.K_PAIR);
                pairs[view]++;
            }
            if (kind != ImpreciseRaise.R_INT && kind != ImpreciseRaise.R_PAIR) {
                due.is("the value where there is none: " + of, value, 0);
            }
            if (kind != ImpreciseRaise.R_EXC) {
                due.is("the exceptions where there are none: " + of, exceptions, 0);
            }
        }
    }

    private static void values(Due due) {
        due.sentence("A value is either INT v (a 32-bit int) or PAIR k, where k is the index of a K_PAIR node");
        Answers answers = new Answers(due);
        answers.playAll(2100, 21);
        for (int view = 0; view < 3; view++) {
            due.reached("pairs of view " + view, answers.pairs[view] > 1000);
        }
    }

    /** Looks at what each node denotes after every call. */
    private static final class Denotations extends Sequence {
        Denotations(Due due) {
            super(due);
        }

        @Override
        protected void after() {
            for (int i = 0; i < x.nodeCount(); i++) {
                int kind = x.denKind(i);
                int set = x.denSet(i);
                due.isTrue("denKind(" + i + ") is one of three", kind >= ImpreciseRaise.R_INT
                    && kind <= ImpreciseRaise.R_EXC);
                due.is("denSet(" + i + ") is not empty", set != 0 ? 1 : 0, kind == ImpreciseRaise.R_EXC ? 1 : 0);
                due.is("denSet(" + i + ") beyond the 15 codes", set & ~ImpreciseRaise.ALL_EXC, 0);
            }
        }
    }

    private static void denotations(Due due) {
        due.sentence("gives every node an int, a pair, or a nonempty set of possible exceptions");
        new Denotations(due).playAll(2100, 21);
    }

    /** A ring of two, whose second node waits for reference 5; then a pair of itself with a missing one. */
    private static ImpreciseRaise rings(Due due) {
        ImpreciseRaise x = new ImpreciseRaise(8);
        due.add(x, ImpreciseRaise.K_IF, 5, 2, 1);
        due.add(x, ImpreciseRaise.K_SEQ, 0, 7);
        due.add(x, ImpreciseRaise.K_PAIR, 2, 7);
        due.add(x, ImpreciseRaise.K_FST, 2);
        due.add(x, ImpreciseRaise.K_SND, 2);
        return x;
    }

    private static void selfAndLater(Due due) {
        due.sentence("Nodes may refer to themselves and to nodes not added yet");
        ImpreciseRaise x = rings(due);
        due.gives(x, 3, ImpreciseRaise.R_PAIR, 2);
        due.raises(x, 4, ImpreciseRaise.EXC_MISSING);
        due.raises(x, 0, ImpreciseRaise.EXC_MISSING);
        due.add(x, ImpreciseRaise.K_CONST, 0);
        due.sentence("A node demanded while its own evaluation is under way raises a loop exception");
        due.raises(x, 0, ImpreciseRaise.EXC_LOOP);
        due.raises(x, 1, ImpreciseRaise.EXC_LOOP);
        due.sentence("Every node interrupted by an exception is left unevaluated and can be entered again");
        ImpreciseRaise y = rings(due);
        for (int i = 0; i < 5; i++) {
            due.raises(y, 1, ImpreciseRaise.EXC_MISSING);
            due.unevaluated(y, 0);
            due.unevaluated(y, 1);
        }
        due.add(y, ImpreciseRaise.K_CONST, 3);
        due.gives(y, 0, ImpreciseRaise.R_PAIR, 2);
        due.sentence("A node whose evaluation completes is overwritten with its value and keeps it across runs");
        due.raises(y, 1, ImpreciseRaise.EXC_MISSING);
        due.state(y, 0, ImpreciseRaise.R_PAIR, 2);
    }

    private static void everyCode(Due due) {
        due.sentence("A set of codes is an int mask in which code e is bit (1 << e)");
        ImpreciseRaise x = new ImpreciseRaise(32);
        due.add(x, ImpreciseRaise.K_CONST, 0);
        int all = due.add(x, ImpreciseRaise.K_DIV, 0, 0);
        due.denotesSet(x, all, 1 << ImpreciseRaise.EXC_DIVZERO);
        int type = due.add(x, ImpreciseRaise.K_FST, 0);
        due.denotesSet(x, type, 1 << ImpreciseRaise.EXC_TYPE);
        int missing = due.add(x, ImpreciseRaise.K_SEQ, 31, 0);
        due.denotesSet(x, missing, 1 << ImpreciseRaise.EXC_MISSING);
        all = due.add(x, ImpreciseRaise.K_ADD, all, type);
        all = due.add(x, ImpreciseRaise.K_ADD, all, missing);
        for (int code = ImpreciseRaise.EXC_USER_MIN; code <= ImpreciseRaise.EXC_USER_MAX; code++) {
            int raise = due.add(x, ImpreciseRaise.K_RAISE, code);
            due.denotesSet(x, raise, 1 << code);
            all = due.add(x, ImpreciseRaise.K_ADD, all, raise);
        }
        due.sentence("ALL_EXC = 0xFFFE is the set of all 15 codes 1..15");
        due.denotesSet(x, all, 0xFFFE & ~(1 << ImpreciseRaise.EXC_LOOP));
        int loop = due.add(x, ImpreciseRaise.K_SEQ, x.nodeCount(), 0);
        due.denotesSet(x, loop, 0xFFFE);
    }

    public static void main(String[] args) {
        Due due = new Due("WhatItIsTest");
        values(due);
        denotations(due);
        selfAndLater(due);
        everyCode(due);
        due.end();
    }
}
