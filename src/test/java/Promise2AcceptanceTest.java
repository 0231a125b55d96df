/** Promise 2: what an accepted node brings, and what it leaves alone. */
public final class Promise2AcceptanceTest {
    private static void indices(Due due) {
        due.sentence("The node gets index count, and count grows by one. The answer is the new index");
        for (int capacity : new int[] {8, 17, 32}) {
            ImpreciseRaise x = new ImpreciseRaise(capacity);
            for (int i = 0; i < capacity; i++) {
                int kind = (i * 5) % 12;
                due.is("addNode number " + i, x.addNode(kind, 5, 5, 5), i);
                due.is("nodeCount()", x.nodeCount(), i + 1);
                due.is("nodeKind(" + i + ")", x.nodeKind(i), kind);
            }
        }
    }

    private static void definitionStays(Due due) {
        due.sentence("A node never changes its definition afterwards");
        ImpreciseRaise x = Sample.everyKind();
        due.add(x, ImpreciseRaise.K_CONST, 100);
        due.add(x, ImpreciseRaise.K_CONST, 2);
        due.add(x, ImpreciseRaise.K_CONST, 3);
        due.refuses(x, ImpreciseRaise.K_CONST, 1, 1, 1);
        int[] values = {6, 0, 12, 6, 12, 4, 1, 12, 0, 9, 12, 0, 0, 100, 2, 3};
        for (int round = 0; round < 3; round++) {
            x.setScript(round);
            for (int i = 0; i < 16; i++) {
                if (i == 1 || i == 8 || i == 11 || i == 12) {
                    due.raises(x, i, 9);
                } else {
                    due.gives(x, i, i == 9 ? ImpreciseRaise.R_PAIR : ImpreciseRaise.R_INT, values[i]);
                }
                due.is("nodeKind(" + i + ")", x.nodeKind(i), i < 12 ? i : (i == 12 ? ImpreciseRaise.K_ADD : 0));
            }
            x.resetThunks();
        }
    }

    private static void startingStates(Due due) {
        due.sentence("The new node's machine state is INT a for K_CONST and PAIR i for a K_PAIR node i. "
            + "Every other kind starts unevaluated");
        for (int before = 0; before < 8; before++) {
            for (int kind = 0; kind <= 11; kind++) {
                ImpreciseRaise x = new ImpreciseRaise(8);
                for (int i = 0; i < before; i++) {
                    due.add(x, ImpreciseRaise.K_CONST, 9);
                }
                due.add(x, kind, 5, 5, 5);
                if (kind == ImpreciseRaise.K_CONST) {
                    due.state(x, before, ImpreciseRaise.R_INT, 5);
                } else if (kind == ImpreciseRaise.K_PAIR) {
                    due.state(x, before, ImpreciseRaise.R_PAIR, before);
                } else {
                    due.unevaluated(x, before);
                }
            }
        }
    }

    private static void raiseStaysUnevaluated(Due due) {
        due.sentence("a K_RAISE node stays unevaluated forever");
        ImpreciseRaise x = new ImpreciseRaise(8);
        int raise = due.add(x, ImpreciseRaise.K_RAISE, 5);
        due.add(x, ImpreciseRaise.K_ADD, 0, 0);
        due.add(x, ImpreciseRaise.K_SEQ, 0, 0);
        due.add(x, ImpreciseRaise.K_IF, 0, 0, 0);
        due.add(x, ImpreciseRaise.K_FST, 0);
        for (int round = 0; round < 2; round++) {
            for (int root = 0; root < 5; root++) {
                due.raises(x, root, 5);
                due.unevaluated(x, raise);
            }
            x.resetThunks();
            due.unevaluated(x, raise);
            due.add(x, ImpreciseRaise.K_CONST, 1);
            due.unevaluated(x, raise);
        }
    }

    /** What only node i answers. */
    private static String[] answersOf(int i) {
        return new String[] {
            "nodeCount()", "nodeKind(" + i + ")", "nodeState(" + i + ")", "nodeValue(" + i + ")",
            "denKind(" + i + ")", "denSet(" + i + ")", "denValue(" + i + ")",
        };
    }

    private static void othersStay(Due due) {
        due.sentence("Adding a node changes no other node's machine state, the script or the last* answers");
        for (int root : new int[] {-1, 4, 7, 9, 12}) {
            for (int kind = 0; kind <= 11; kind++) {
                ImpreciseRaise x = Sample.everyKind();
                ImpreciseRaise twin = Sample.everyKind();
                x.run(root);
                twin.run(root);
                // Nothing refers to index 13 yet, so the denotations stay as well.
                due.is("addNode", x.addNode(kind, 6, 2, 0), 13);
                Twins.same(due, x, twin, answersOf(13));
            }
        }
        ImpreciseRaise fresh = new ImpreciseRaise(8);
        due.add(fresh, ImpreciseRaise.K_CONST, 4);
        due.last(fresh, ImpreciseRaise.R_NONE, 0, 0);
        due.is("script()", fresh.script(), 0);
    }

    private static void waitersStayUnevaluated(Due due) {
        due.sentence("Adding a node changes no other node's machine state: not of the nodes that waited for it");
        ImpreciseRaise x = new ImpreciseRaise(8);
        due.add(x, ImpreciseRaise.K_ADD, 2, 2);
        due.add(x, ImpreciseRaise.K_SEQ, 2, 2);
        due.raises(x, 0, ImpreciseRaise.EXC_MISSING);
        due.add(x, ImpreciseRaise.K_CONST, 21);
        due.unevaluated(x, 0);
        due.unevaluated(x, 1);
        due.last(x, ImpreciseRaise.R_EXC, 0, ImpreciseRaise.EXC_MISSING);
    }

    private static void waitersDenoteOtherwise(Due due) {
        due.sentence("an earlier node that referred to the new index may denote something different afterwards");
        ImpreciseRaise x = new ImpreciseRaise(8);
        due.add(x, ImpreciseRaise.K_ADD, 1, 3);
        due.denotesSet(x, 0, Sample.MISSING);
        due.add(x, ImpreciseRaise.K_RAISE, 8);
        due.denotesSet(x, 0, Sample.MISSING | 1 << 8);
        due.add(x, ImpreciseRaise.K_CONST, 1);
        due.denotesSet(x, 0, Sample.MISSING | 1 << 8);
        due.add(x, ImpreciseRaise.K_SEQ, 0, 0);
        due.denotesSet(x, 0, ImpreciseRaise.ALL_EXC);
        ImpreciseRaise y = new ImpreciseRaise(8);
        due.add(y, ImpreciseRaise.K_SEQ, 1, 1);
        due.denotesSet(y, 0, Sample.MISSING);
        due.add(y, ImpreciseRaise.K_PAIR, 0, 0);
        due.denotes(y, 0, ImpreciseRaise.R_PAIR, 1);
    }

    public static void main(String[] args) {
        Due due = new Due("Promise2AcceptanceTest");
        indices(due);
        definitionStays(due);
        startingStates(due);
        raiseStaysUnevaluated(due);
        othersStay(due);
        waitersStayUnevaluated(due);
        waitersDenoteOtherwise(due);
        due.end();
    }
}
