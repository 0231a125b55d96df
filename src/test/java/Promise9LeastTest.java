/** Promise 9: the least solution, strict dependence on oneself, and what denotations do not depend on. */
public final class Promise9LeastTest {
    /** Node 0 is INT 1, 1 INT 0, 2 raises 5, 3 a pair of node 4 with itself; node 4 leans on itself. */
    private static ImpreciseRaise withSelf(Due due, int kind, int a, int b, int c) {
        ImpreciseRaise x = new ImpreciseRaise(8);
        due.add(x, ImpreciseRaise.K_CONST, 1);
        due.add(x, ImpreciseRaise.K_CONST, 0);
        due.add(x, ImpreciseRaise.K_RAISE, 5);
        due.add(x, ImpreciseRaise.K_PAIR, 4, 4);
        due.add(x, kind, a, b, c);
        return x;
    }

    private static void strictSelf(Due due) {
        due.sentence("So a node that depends strictly on itself denotes ALL_EXC");
        for (int kind : Sample.BINARY) {
            for (int other = 0; other < 8; other++) {
                due.denotesSet(withSelf(due, kind, 4, other, 0), 4, ImpreciseRaise.ALL_EXC);
                due.denotesSet(withSelf(due, kind, other, 4, 0), 4, ImpreciseRaise.ALL_EXC);
            }
        }
        int[][] strict = {
            {ImpreciseRaise.K_IF, 4, 0, 0}, {ImpreciseRaise.K_IF, 0, 4, 0}, {ImpreciseRaise.K_IF, 1, 0, 4},
            {ImpreciseRaise.K_SEQ, 4, 0, 0}, {ImpreciseRaise.K_SEQ, 0, 4, 0}, {ImpreciseRaise.K_SEQ, 4, 2, 0},
            {ImpreciseRaise.K_FST, 4, 0, 0}, {ImpreciseRaise.K_SND, 4, 0, 0}, {ImpreciseRaise.K_FST, 3, 0, 0},
            {ImpreciseRaise.K_SND, 3, 0, 0},
        };
        for (int[] node : strict) {
            due.denotesSet(withSelf(due, node[0], node[1], node[2], node[3]), 4, ImpreciseRaise.ALL_EXC);
        }
    }

    private static void strictRing(Due due) {
        due.sentence("So a node that depends strictly on itself denotes ALL_EXC: by way of others");
        for (int length = 2; length <= 31; length++) {
            ImpreciseRaise x = new ImpreciseRaise(32);
            for (int i = 0; i < length; i++) {
                due.add(x, ImpreciseRaise.K_ADD + i % 7, (i + 1) % length, (i + 1) % length, (i + 1) % length);
            }
            int outside = due.add(x, ImpreciseRaise.K_FST, 0);
            for (int i = 0; i <= outside; i++) {
                due.denotesSet(x, i, ImpreciseRaise.ALL_EXC);
            }
        }
    }

    private static void lazySelf(Due due) {
        due.sentence("depends strictly on itself: not so where the reference to itself is never looked at");
        due.denotesSet(withSelf(due, ImpreciseRaise.K_IF, 2, 4, 4), 4, 1 << 5);
        due.denotes(withSelf(due, ImpreciseRaise.K_IF, 0, 0, 4), 4, ImpreciseRaise.R_INT, 1);
        due.denotes(withSelf(due, ImpreciseRaise.K_IF, 1, 4, 1), 4, ImpreciseRaise.R_INT, 0);
        due.denotesSet(withSelf(due, ImpreciseRaise.K_IF, 3, 4, 4), 4, Sample.TYPE);
        due.denotesSet(withSelf(due, ImpreciseRaise.K_SEQ, 2, 4, 0), 4, 1 << 5);
        due.denotesSet(withSelf(due, ImpreciseRaise.K_SEQ, 7, 4, 0), 4, Sample.MISSING);
        due.denotes(withSelf(due, ImpreciseRaise.K_PAIR, 4, 4, 0), 4, ImpreciseRaise.R_PAIR, 4);
        due.denotes(withSelf(due, ImpreciseRaise.K_SEQ, 0, 3, 0), 4, ImpreciseRaise.R_PAIR, 3);
    }

    /** Each node takes one more round than the one it leans on, whichever way the indices run. */
    private static void untilNothingChanges(Due due) {
        due.sentence("round after round, until a round changes nothing");
        for (int cap = 8; cap <= 32; cap++) {
            ImpreciseRaise down = Sample.full(cap);
            ImpreciseRaise up = new ImpreciseRaise(cap);
            due.add(up, ImpreciseRaise.K_CONST, 1);
            for (int i = 1; i < cap; i++) {
                due.add(up, ImpreciseRaise.K_ADD, i - 1, 0);
            }
            ImpreciseRaise sets = new ImpreciseRaise(cap);
            for (int i = 0; i < cap - 1; i++) {
                due.add(sets, ImpreciseRaise.K_SEQ, i + 1, 0);
            }
            due.add(sets, ImpreciseRaise.K_RAISE, 8);
            for (int i = 0; i < cap; i++) {
                due.denotes(down, i, ImpreciseRaise.R_INT, cap - i);
                due.denotes(up, i, ImpreciseRaise.R_INT, i + 1);
                due.denotesSet(sets, i, 1 << 8);
            }
        }
    }

    private static void currentGraph(Due due) {
        due.sentence("It depends only on the current graph (its nodes and count)");
        ImpreciseRaise x = new ImpreciseRaise(8);
        due.add(x, ImpreciseRaise.K_ADD, 1, 2);
        due.denotesSet(x, 0, Sample.MISSING);
        due.add(x, ImpreciseRaise.K_SEQ, 3, 3);
        due.denotesSet(x, 0, Sample.MISSING);
        due.add(x, ImpreciseRaise.K_RAISE, 12);
        due.denotesSet(x, 0, Sample.MISSING | 1 << 12);
        due.add(x, ImpreciseRaise.K_CONST, 1);
        due.denotesSet(x, 0, 1 << 12);
        due.denotes(x, 1, ImpreciseRaise.R_INT, 1);
    }

    private static void nothingElse(Due due) {
        due.sentence("It does not depend on the script, any evaluation order, any run, or the machine state");
        ImpreciseRaise twin = Sample.everyKind();
        for (long script = 0; script < 16; script++) {
            ImpreciseRaise x = Sample.everyKind();
            x.setScript(script);
            for (int i = 0; i < 13; i++) {
                x.run((int) (i * 5 + script) % 13);
                for (int n = 0; n < 13; n++) {
                    due.is("denKind(" + n + ")", x.denKind(n), twin.denKind(n));
                    due.is("denSet(" + n + ")", x.denSet(n), twin.denSet(n));
                    due.is("denValue(" + n + ")", x.denValue(n), twin.denValue(n));
                }
            }
            x.resetThunks();
            due.denotesSet(x, 12, Sample.MISSING | 1 << 9);
            // Interrupted, run and reset: the next node finds the same graph as without all that.
            due.add(x, ImpreciseRaise.K_ADD, 12, 7);
            due.denotesSet(x, 13, Sample.MISSING | 1 << 9);
        }
    }

    private static void answers(Due due) {
        ImpreciseRaise x = new ImpreciseRaise(8);
        x.addNode(ImpreciseRaise.K_PAIR, 0, 0, 0);
        x.addNode(ImpreciseRaise.K_CONST, 0, 0, 0);
        x.addNode(ImpreciseRaise.K_CONST, -1, 0, 0);
        x.addNode(ImpreciseRaise.K_RAISE, 15, 0, 0);
        x.addNode(ImpreciseRaise.K_SEQ, 4, 4, 0);
        due.sentence("denKind(i) answers R_INT, R_PAIR or R_EXC according to D(i)");
        int[] kinds = {
            ImpreciseRaise.R_PAIR, ImpreciseRaise.R_INT, ImpreciseRaise.R_INT, ImpreciseRaise.R_EXC,
            ImpreciseRaise.R_EXC,
        };
        for (int i = 0; i < 5; i++) {
            due.is("denKind(" + i + ")", x.denKind(i), kinds[i]);
        }
        due.sentence("denSet(i) answers the exception mask of D(i) when it is a set, and 0 otherwise");
        int[] sets = {0, 0, 0, 1 << 15, ImpreciseRaise.ALL_EXC};
        for (int i = 0; i < 5; i++) {
            due.is("denSet(" + i + ")", x.denSet(i), sets[i]);
        }
        due.sentence("denValue(i) answers v for INT v, k for PAIR k, and 0 for a set");
        int[] values = {0, 0, -1, 0, 0};
        for (int i = 0; i < 5; i++) {
            due.is("denValue(" + i + ")", x.denValue(i), values[i]);
        }
        due.sentence("A set is never empty, so a set's mask is never 0");
        ImpreciseRaise every = Sample.everyKind();
        for (int i = 0; i < 13; i++) {
            due.is("denSet(" + i + ") is not 0", every.denSet(i) != 0 ? 1 : 0, every.denKind(i) == 3 ? 1 : 0);
            due.is("denSet(" + i + ") beyond ALL_EXC", every.denSet(i) & ~ImpreciseRaise.ALL_EXC, 0);
        }
    }

    public static void main(String[] args) {
        Due due = new Due("Promise9LeastTest");
        strictSelf(due);
        strictRing(due);
        lazySelf(due);
        untilNothingChanges(due);
        currentGraph(due);
        nothingElse(due);
        answers(due);
        due.end();
    }
}
