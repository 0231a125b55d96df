/** Promise 4: what a raised exception ends at once, and what it leaves behind. */
public final class Promise4RaisedTest {
    private static void nothingMoreIsForced(Due due) {
        due.sentence("nothing more is forced");
        ImpreciseRaise x = new ImpreciseRaise(16);
        due.add(x, ImpreciseRaise.K_CONST, 1);
        due.add(x, ImpreciseRaise.K_RAISE, 9);
        due.add(x, ImpreciseRaise.K_ADD, 0, 0);
        // Each of these meets the exception first and node 2 only after it.
        due.add(x, ImpreciseRaise.K_ADD, 1, 2);
        due.add(x, ImpreciseRaise.K_SEQ, 1, 2);
        due.add(x, ImpreciseRaise.K_IF, 1, 2, 2);
        due.add(x, ImpreciseRaise.K_MUL, 3, 2);
        due.add(x, ImpreciseRaise.K_SEQ, 4, 2);
        due.add(x, ImpreciseRaise.K_IF, 5, 2, 2);
        due.add(x, ImpreciseRaise.K_DIV, 2, 1);
        for (int root = 3; root < 10; root++) {
            x.setScript(root == 9 ? 1L : 0L);
            due.raises(x, root, 9);
            due.unevaluated(x, 2);
        }
    }

    private static void noMoreBits(Due due) {
        due.sentence("no more script bits are taken");
        // A bit taken once node 0 has raised could show only in a later run, which would begin further on.
        ImpreciseRaise x = new ImpreciseRaise(8);
        due.add(x, ImpreciseRaise.K_RAISE, 5);
        due.add(x, ImpreciseRaise.K_RAISE, 6);
        due.add(x, ImpreciseRaise.K_CONST, 1);
        due.add(x, ImpreciseRaise.K_ADD, 2, 2);
        due.add(x, ImpreciseRaise.K_ADD, 0, 3);
        due.add(x, ImpreciseRaise.K_ADD, 0, 1);
        x.setScript(0xAL);
        for (int round = 0; round < 3; round++) {
            due.raises(x, 4, 5);
            due.unevaluated(x, 3);
            due.raises(x, 5, 5);
        }
    }

    /** Nodes 2 to 12, of every kind that can be active, all lead to reference 15, which is missing at first. */
    private static ImpreciseRaise nested(Due due) {
        ImpreciseRaise x = new ImpreciseRaise(16);
        due.add(x, ImpreciseRaise.K_CONST, 1);
        due.add(x, ImpreciseRaise.K_PAIR, 2, 2);
        due.add(x, ImpreciseRaise.K_ADD, 0, 15);
        due.add(x, ImpreciseRaise.K_FST, 1);
        due.add(x, ImpreciseRaise.K_SND, 1);
        due.add(x, ImpreciseRaise.K_SEQ, 3, 4);
        due.add(x, ImpreciseRaise.K_IF, 0, 5, 0);
        due.add(x, ImpreciseRaise.K_SUB, 0, 6);
        due.add(x, ImpreciseRaise.K_MUL, 7, 7);
        due.add(x, ImpreciseRaise.K_DIV, 0, 8);
        due.add(x, ImpreciseRaise.K_LT, 9, 0);
        due.add(x, ImpreciseRaise.K_IF, 10, 0, 0);
        due.add(x, ImpreciseRaise.K_SEQ, 0, 11);
        return x;
    }

    private static void activeNodesStayUnevaluated(Due due) {
        due.sentence("every active node stops being active and stays unevaluated, so it is never left half-updated");
        for (long script : new long[] {0L, -1L, 0x5555L}) {
            ImpreciseRaise x = nested(due);
            x.setScript(script);
            for (int root = 2; root < 13; root++) {
                due.raises(x, root, ImpreciseRaise.EXC_MISSING);
                for (int i = 2; i < 13; i++) {
                    due.unevaluated(x, i);
                }
            }
        }
    }

    private static void enteredAgain(Due due) {
        due.sentence("and can be entered again later");
        for (long script : new long[] {0L, -1L, 0x5555L}) {
            ImpreciseRaise x = nested(due);
            x.setScript(script);
            // Not a loop: the same node raises the same again, and so do those inside it.
            due.raises(x, 12, ImpreciseRaise.EXC_MISSING);
            due.raises(x, 12, ImpreciseRaise.EXC_MISSING);
            due.raises(x, 6, ImpreciseRaise.EXC_MISSING);
            due.add(x, ImpreciseRaise.K_CONST, 1);
            due.add(x, ImpreciseRaise.K_CONST, 1);
            due.add(x, ImpreciseRaise.K_CONST, 1);
            // 2: 1+1 = 2, 7: 1-2 = -1, 8: 1, 9: 1/1 = 1, 10: 1<1 = 0, so 11 gives node 0.
            due.gives(x, 12, ImpreciseRaise.R_INT, 1);
            int[] values = {2, 2, 2, 2, 2, -1, 1, 1, 0, 1, 1};
            for (int i = 2; i < 13; i++) {
                due.state(x, i, ImpreciseRaise.R_INT, values[i - 2]);
            }
        }
    }

    private static void completedNodesKeep(Due due) {
        due.sentence("nodes whose evaluation completed earlier in the same run keep their update");
        ImpreciseRaise x = new ImpreciseRaise(16);
        due.add(x, ImpreciseRaise.K_CONST, 3);
        due.add(x, ImpreciseRaise.K_RAISE, 9);
        due.add(x, ImpreciseRaise.K_PAIR, 0, 1);
        due.add(x, ImpreciseRaise.K_MUL, 0, 0);
        due.add(x, ImpreciseRaise.K_IF, 3, 2, 1);
        due.add(x, ImpreciseRaise.K_FST, 4);
        due.add(x, ImpreciseRaise.K_ADD, 5, 1);
        due.add(x, ImpreciseRaise.K_SEQ, 6, 0);
        due.raises(x, 7, 9);
        due.state(x, 3, ImpreciseRaise.R_INT, 9);
        due.state(x, 4, ImpreciseRaise.R_PAIR, 2);
        due.state(x, 5, ImpreciseRaise.R_INT, 3);
        due.unevaluated(x, 6);
        due.unevaluated(x, 7);
        // Completed by an earlier run, they keep it as well.
        due.raises(x, 7, 9);
        due.state(x, 3, ImpreciseRaise.R_INT, 9);
        due.state(x, 4, ImpreciseRaise.R_PAIR, 2);
        due.state(x, 5, ImpreciseRaise.R_INT, 3);
    }

    private static void faultsInTheNodeItself(Due due) {
        due.sentence("A raised exception ends every FORCE in progress at once: raised by the node itself");
        ImpreciseRaise x = new ImpreciseRaise(16);
        due.add(x, ImpreciseRaise.K_CONST, 0);
        due.add(x, ImpreciseRaise.K_PAIR, 0, 0);
        due.add(x, ImpreciseRaise.K_ADD, 0, 0);
        due.add(x, ImpreciseRaise.K_DIV, 2, 2);
        due.add(x, ImpreciseRaise.K_ADD, 1, 2);
        due.add(x, ImpreciseRaise.K_IF, 1, 2, 2);
        due.add(x, ImpreciseRaise.K_FST, 2);
        int[] codes = {1, 2, 2, 2};
        for (int round = 0; round < 2; round++) {
            for (int i = 3; i < 7; i++) {
                due.raises(x, i, codes[i - 3]);
                due.unevaluated(x, i);
            }
        }
        due.state(x, 2, ImpreciseRaise.R_INT, 0);
        int outer = due.add(x, ImpreciseRaise.K_SEQ, 3, 0);
        due.raises(x, outer, ImpreciseRaise.EXC_DIVZERO);
        due.unevaluated(x, outer);
    }

    private static void noNodeStaysActive(Due due) {
        due.sentence("No node is active between runs");
        ImpreciseRaise x = new ImpreciseRaise(32);
        for (int i = 0; i < 31; i++) {
            due.add(x, ImpreciseRaise.K_ADD, i + 1, i + 1);
        }
        for (int root = 0; root < 31; root++) {
            due.raises(x, root, ImpreciseRaise.EXC_MISSING);
        }
        due.add(x, ImpreciseRaise.K_SEQ, 0, 0);
        for (int root = 31; root >= 0; root--) {
            due.raises(x, root, ImpreciseRaise.EXC_LOOP);
        }
        ImpreciseRaise y = Sample.full(32);
        due.gives(y, 0, ImpreciseRaise.R_INT, 32);
        y.resetThunks();
        due.gives(y, 0, ImpreciseRaise.R_INT, 32);
    }

    public static void main(String[] args) {
        Due due = new Due("Promise4RaisedTest");
        nothingMoreIsForced(due);
        noMoreBits(due);
        activeNodesStayUnevaluated(due);
        enteredAgain(due);
        completedNodesKeep(due);
        faultsInTheNodeItself(due);
        noNodeStaysActive(due);
        due.end();
    }
}
