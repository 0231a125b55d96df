/** Promise 9: the equations of the denotation and their least solution. */
public final class Promise9DenotationTest {
    private static final int MISSING = 1 << ImpreciseRaise.EXC_MISSING;
    private static final int TYPE = 1 << ImpreciseRaise.EXC_TYPE;
    private static final int DIVZERO = 1 << ImpreciseRaise.EXC_DIVZERO;

    private static void binarySets(Due due) {
        for (int kind = ImpreciseRaise.K_ADD; kind <= ImpreciseRaise.K_LT; kind++) {
            ImpreciseRaise x = new ImpreciseRaise(16);
            due.add(x, ImpreciseRaise.K_CONST, 0);
            due.add(x, ImpreciseRaise.K_RAISE, 5);
            due.add(x, ImpreciseRaise.K_RAISE, 15);
            due.add(x, ImpreciseRaise.K_PAIR, 1, 1);
            due.denotesSet(x, due.add(x, kind, 1, 2), 1 << 5 | 1 << 15);
            due.denotesSet(x, due.add(x, kind, 1, 1), 1 << 5);
            due.denotesSet(x, due.add(x, kind, 1, 0), 1 << 5);
            due.denotesSet(x, due.add(x, kind, 0, 2), 1 << 15);
            due.denotesSet(x, due.add(x, kind, 3, 2), 1 << 15);
            due.denotesSet(x, due.add(x, kind, 1, 3), 1 << 5);
            due.denotesSet(x, due.add(x, kind, 3, 0), TYPE);
            due.denotesSet(x, due.add(x, kind, 15, 4), MISSING | 1 << 5 | 1 << 15);
        }
    }

    private static void otherKinds(Due due) {
        ImpreciseRaise x = new ImpreciseRaise(32);
        due.add(x, ImpreciseRaise.K_CONST, 0);
        due.add(x, ImpreciseRaise.K_CONST, 7);
        due.add(x, ImpreciseRaise.K_PAIR, 1, 31);
        due.add(x, ImpreciseRaise.K_RAISE, 9);
        due.add(x, ImpreciseRaise.K_DIV, 1, 0);
        due.denotesSet(x, 3, 1 << 9);
        due.denotesSet(x, 4, DIVZERO);
        due.denotes(x, 2, ImpreciseRaise.R_PAIR, 2);
        due.denotesSet(x, due.add(x, ImpreciseRaise.K_IF, 3, 4, 31), 1 << 9);
        due.denotesSet(x, due.add(x, ImpreciseRaise.K_IF, 2, 1, 1), TYPE);
        due.denotes(x, due.add(x, ImpreciseRaise.K_IF, 1, 2, 3), ImpreciseRaise.R_PAIR, 2);
        due.denotes(x, due.add(x, ImpreciseRaise.K_IF, 0, 3, 1), ImpreciseRaise.R_INT, 7);
        due.denotesSet(x, due.add(x, ImpreciseRaise.K_SEQ, 4, 3), DIVZERO);
        due.denotesSet(x, due.add(x, ImpreciseRaise.K_SEQ, 2, 3), 1 << 9);
        due.denotes(x, due.add(x, ImpreciseRaise.K_SEQ, 0, 2), ImpreciseRaise.R_PAIR, 2);
        due.denotes(x, due.add(x, ImpreciseRaise.K_FST, 2), ImpreciseRaise.R_INT, 7);
        due.denotesSet(x, due.add(x, ImpreciseRaise.K_SND, 2), MISSING);
        due.denotesSet(x, due.add(x, ImpreciseRaise.K_FST, 1), TYPE);
        due.denotesSet(x, due.add(x, ImpreciseRaise.K_SND, 3), 1 << 9);
    }

    private static void leastSolutions(Due due) {
        ImpreciseRaise x = new ImpreciseRaise(16);
        due.add(x, ImpreciseRaise.K_RAISE, 5);
        due.add(x, ImpreciseRaise.K_CONST, 1);
        due.denotesSet(x, due.add(x, ImpreciseRaise.K_ADD, 2, 0), ImpreciseRaise.ALL_EXC);
        due.denotesSet(x, due.add(x, ImpreciseRaise.K_SEQ, 1, 3), ImpreciseRaise.ALL_EXC);
        due.denotesSet(x, due.add(x, ImpreciseRaise.K_SEQ, 0, 4), 1 << 5);
        due.denotes(x, due.add(x, ImpreciseRaise.K_IF, 1, 1, 5), ImpreciseRaise.R_INT, 1);
        due.add(x, ImpreciseRaise.K_PAIR, 7, 1);
        due.denotesSet(x, due.add(x, ImpreciseRaise.K_FST, 6), ImpreciseRaise.ALL_EXC);
        due.denotes(x, due.add(x, ImpreciseRaise.K_SND, 6), ImpreciseRaise.R_INT, 1);
        due.denotesSet(x, due.add(x, ImpreciseRaise.K_MUL, 8, 7), ImpreciseRaise.ALL_EXC);
    }

    /** The values have to travel through the whole graph, one node a round. */
    private static void longChain(Due due) {
        ImpreciseRaise x = new ImpreciseRaise(32);
        for (int i = 0; i < 31; i++) {
            due.add(x, ImpreciseRaise.K_ADD, i + 1, 31);
            due.denotesSet(x, 0, MISSING);
        }
        due.add(x, ImpreciseRaise.K_CONST, 2);
        for (int i = 0; i < 32; i++) {
            due.denotes(x, i, ImpreciseRaise.R_INT, 2 * (32 - i));
        }
    }

    private static void machineDoesNotMatter(Due due) {
        ImpreciseRaise x = new ImpreciseRaise(8);
        due.add(x, ImpreciseRaise.K_RAISE, 5);
        due.add(x, ImpreciseRaise.K_RAISE, 6);
        due.add(x, ImpreciseRaise.K_ADD, 0, 1);
        due.add(x, ImpreciseRaise.K_ADD, 2, 7);
        for (int script = 0; script < 4; script++) {
            x.setScript(script);
            x.run(3);
            due.denotesSet(x, 2, 1 << 5 | 1 << 6);
            due.denotesSet(x, 3, 1 << 5 | 1 << 6 | MISSING);
            x.resetThunks();
            due.denotesSet(x, 3, 1 << 5 | 1 << 6 | MISSING);
        }
    }

    public static void main(String[] args) {
        Due due = new Due("Promise9DenotationTest");
        binarySets(due);
        otherKinds(due);
        leastSolutions(due);
        longChain(due);
        machineDoesNotMatter(due);
        for (int i : new int[] {Integer.MIN_VALUE, -1, 0, 31, 32, Integer.MAX_VALUE}) {
            due.outOfRange(new ImpreciseRaise(32), i);
        }
        due.end();
    }
}
