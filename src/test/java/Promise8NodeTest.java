/** Promise 8: nodeKind, nodeState and nodeValue, in range and out of it. */
public final class Promise8NodeTest {
    private static void asOutOfRange(Due due, ImpreciseRaise x, int i) {
        due.is("nodeKind(" + i + ")", x.nodeKind(i), -1);
        due.is("nodeState(" + i + ")", x.nodeState(i), ImpreciseRaise.R_NONE);
        due.is("nodeValue(" + i + ")", x.nodeValue(i), 0);
    }

    private static void negative(Due due) {
        due.sentence("For i not in 0..count-1: negative");
        for (ImpreciseRaise x : new ImpreciseRaise[] {new ImpreciseRaise(8), Sample.everyKind(), Sample.full(32)}) {
            for (int i = -33; i < 0; i++) {
                asOutOfRange(due, x, i);
            }
            asOutOfRange(due, x, Integer.MIN_VALUE);
        }
    }

    private static void notAddedYet(Due due) {
        due.sentence("For i not in 0..count-1: not added yet, from i = count on");
        for (int cap : new int[] {8, 32}) {
            ImpreciseRaise x = new ImpreciseRaise(cap);
            for (int count = 0; count <= cap; count++) {
                for (int i = count; i < 70; i++) {
                    asOutOfRange(due, x, i);
                }
                x.addNode(ImpreciseRaise.K_CONST, 5, 0, 0);
            }
        }
        ImpreciseRaise y = Sample.everyKind();
        for (int i = 13; i < 70; i++) {
            asOutOfRange(due, y, i);
        }
    }

    private static void farBeyond(Due due) {
        due.sentence("For i not in 0..count-1: far beyond");
        for (ImpreciseRaise x : new ImpreciseRaise[] {new ImpreciseRaise(8), Sample.everyKind(), Sample.full(32)}) {
            for (int i : new int[] {256, 65536, 1 << 24, (1 << 30) + 1, Integer.MAX_VALUE - 1, Integer.MAX_VALUE}) {
                asOutOfRange(due, x, i);
            }
        }
    }

    private static void kinds(Due due) {
        due.sentence("nodeKind(i) answers the kind given when node i was added");
        for (int shift = 0; shift < 12; shift++) {
            ImpreciseRaise x = new ImpreciseRaise(32);
            for (int i = 0; i < 32; i++) {
                due.add(x, (i + shift) % 12, 5, 5, 5);
            }
            for (int i = 0; i < 32; i++) {
                due.is("nodeKind(" + i + ")", x.nodeKind(i), (i + shift) % 12);
                x.run(i);
                due.is("nodeKind(" + i + ") after its run", x.nodeKind(i), (i + shift) % 12);
            }
        }
    }

    /** Node 0 is INT 2, 1 raises 5, 2 a pair of itself, and the rest lean on these three. */
    private static ImpreciseRaise mixed() {
        ImpreciseRaise x = new ImpreciseRaise(32);
        int[] kinds = {0, 1, 9, 2, 10, 7, 8, 11, 6};
        for (int kind : kinds) {
            x.addNode(kind, kind == 1 ? 5 : 2, 2, 2);
        }
        x.addNode(ImpreciseRaise.K_SUB, 0, 0, 0);
        x.addNode(ImpreciseRaise.K_MUL, 0, 0, 0);
        return x;
    }

    private static void states(Due due) {
        ImpreciseRaise x = mixed();
        for (int i = 0; i < 11; i++) {
            x.run(i);
        }
        due.sentence("nodeState(i) answers R_INT if node i's machine state is INT v");
        due.state(x, 9, ImpreciseRaise.R_INT, 0);
        due.state(x, 10, ImpreciseRaise.R_INT, 4);
        due.sentence("R_PAIR if it is PAIR k");
        for (int i : new int[] {4, 6, 7}) {
            due.state(x, i, ImpreciseRaise.R_PAIR, 2);
        }
        due.sentence("and ST_UNEVAL if it is unevaluated; nodeValue(i) answers 0 when unevaluated");
        for (int i : new int[] {3, 5, 8}) {
            due.unevaluated(x, i);
        }
        x.resetThunks();
        for (int i = 3; i < 11; i++) {
            due.unevaluated(x, i);
        }
    }

    private static void leaves(Due due) {
        ImpreciseRaise x = mixed();
        due.sentence("A K_CONST node always answers R_INT");
        for (int round = 0; round < 12; round++) {
            due.state(x, 0, ImpreciseRaise.R_INT, 2);
            x.run(round);
            x.resetThunks();
        }
        due.sentence("a K_PAIR node always R_PAIR");
        for (int round = 0; round < 12; round++) {
            due.state(x, 2, ImpreciseRaise.R_PAIR, 2);
            x.run(round);
            x.resetThunks();
        }
        due.sentence("and a K_RAISE node always ST_UNEVAL");
        for (int round = 0; round < 12; round++) {
            due.unevaluated(x, 1);
            x.run(round);
            due.unevaluated(x, 1);
            x.resetThunks();
        }
    }

    private static void values(Due due) {
        due.sentence("nodeValue(i) answers v for INT v, k for PAIR k");
        for (int v : Sample.ANY_INT) {
            ImpreciseRaise x = new ImpreciseRaise(8);
            due.add(x, ImpreciseRaise.K_PAIR, 1, 2);
            due.add(x, ImpreciseRaise.K_CONST, v);
            due.add(x, ImpreciseRaise.K_PAIR, 1, 2);
            due.add(x, ImpreciseRaise.K_FST, 0);
            due.add(x, ImpreciseRaise.K_SND, 0);
            due.add(x, ImpreciseRaise.K_SEQ, 2, 0);
            for (int i = 0; i < 6; i++) {
                x.run(i);
            }
            due.state(x, 0, ImpreciseRaise.R_PAIR, 0);
            due.state(x, 1, ImpreciseRaise.R_INT, v);
            due.state(x, 2, ImpreciseRaise.R_PAIR, 2);
            due.state(x, 3, ImpreciseRaise.R_INT, v);
            due.state(x, 4, ImpreciseRaise.R_PAIR, 2);
            due.state(x, 5, ImpreciseRaise.R_PAIR, 0);
        }
    }

    private static void agreesWithDenotation(Due due) {
        due.sentence("whose nodeState is not ST_UNEVAL, nodeState(i) equals denKind(i) "
            + "and nodeValue(i) equals denValue(i)");
        ImpreciseRaise x = Sample.everyKind();
        due.statesAgree(x);
        for (int added = 13; added < 16; added++) {
            for (int root = 0; root < added; root++) {
                x.run(root);
                due.statesAgree(x);
            }
            // The new node ends a wait of nodes that have been interrupted before.
            due.add(x, ImpreciseRaise.K_SEQ, 0, 2);
            due.statesAgree(x);
        }
        x.resetThunks();
        due.statesAgree(x);
    }

    private static void changeNothing(Due due) {
        due.sentence("None of these queries changes anything");
        Twins.queriesChangeNothing(due, Sample::everyKind, "nodeKind", "nodeState", "nodeValue");
    }

    public static void main(String[] args) {
        Due due = new Due("Promise8NodeTest");
        negative(due);
        notAddedYet(due);
        farBeyond(due);
        kinds(due);
        states(due);
        leaves(due);
        values(due);
        agreesWithDenotation(due);
        changeNothing(due);
        due.end();
    }
}
