import java.util.Arrays;

/** Promise 4: agreement with the denotation, over many and long sequences of calls. */
public final class Promise4SequencesTest extends Sequence {
    private final int[] outcomes = new int[4];
    private final int[] codes = new int[16];
    private final boolean[] interrupted = new boolean[ImpreciseRaise.MAX_CAP];
    private int valuesAfterInterruption = 0;

    private Promise4SequencesTest(Due due) {
        super(due);
    }

    @Override
    protected void begins(int capacity) {
        Arrays.fill(interrupted, false);
    }

    @Override
    protected void ran(int root, int answer) {
        boolean accepted = root >= 0 && root < x.nodeCount();
        due.is("run(" + root + ") is accepted", answer != ImpreciseRaise.R_NONE ? 1 : 0, accepted ? 1 : 0);
        outcomes[answer & 3]++;
        if (accepted) {
            due.runAgrees(x, root, answer);
            codes[x.lastException() & 15]++;
            valuesAfterInterruption += interrupted[root] && answer != ImpreciseRaise.R_EXC ? 1 : 0;
            interrupted[root] = interrupted[root] || answer == ImpreciseRaise.R_EXC;
        }
    }

    /** The sequences must really have led to every outcome and every code, or they tell nothing. */
    private void reached() {
        for (int outcome = 0; outcome < 4; outcome++) {
            due.reached("outcome " + outcome, outcomes[outcome] > 1000);
        }
        for (int code = 1; code < 16; code++) {
            due.reached("code " + code, codes[code] > 100);
        }
        due.reached("values given where runs were interrupted before", valuesAfterInterruption > 1000);
    }

    /** Whenever the graph has grown, every root is run in all the ways that the sentence names. */
    private static final class NoWayOutside extends Sequence {
        NoWayOutside(Due due) {
            super(due);
        }

        @Override
        protected void added(int kind, int a, int b, int c, int answer) {
            for (int root = 0; root <= answer; root++) {
                for (int way = 0; way < 8; way++) {
                    runInWay(root, way);
                }
            }
        }

        private void runInWay(int root, int way) {
            if ((way & 1) == 1) {
                x.resetThunks();
            }
            if ((way & 2) == 2) {
                interruptARun();
            }
            x.setScript((way & 4) == 4 ? pickWord() : pick(64));
            due.runAgrees(x, root, x.run(root));
        }

        private void interruptARun() {
            x.setScript(pickWord());
            int from = pick(x.nodeCount());
            for (int i = 0; i < x.nodeCount(); i++) {
                if (x.run((from + i) % x.nodeCount()) == ImpreciseRaise.R_EXC) {
                    return;
                }
            }
        }
    }

    /** Far more steps on one object than any loop inside may count up to, most of them in runs that are interrupted. */
    private static void oneObject(Due due) {
        ImpreciseRaise x = new ImpreciseRaise(32);
        for (int i = 0; i < 31; i++) {
            due.add(x, ImpreciseRaise.K_ADD, i + 1, 31);
        }
        for (int i = 0; i < 50000; i++) {
            x.setScript(1L << i % 64);
            due.runAgrees(x, i % 31, x.run(i % 31));
        }
        due.add(x, ImpreciseRaise.K_CONST, 1);
        for (int i = 0; i < 50000; i++) {
            x.resetThunks();
            due.gives(x, 0, ImpreciseRaise.R_INT, 32);
            due.runAgrees(x, 0, x.run(0));
        }
    }

    public static void main(String[] args) {
        Due due = new Due("Promise4SequencesTest");
        due.sentence("Agreement with the denotation holds after every sequence of calls");
        Promise4SequencesTest test = new Promise4SequencesTest(due);
        test.playAll(12000, 120);
        test.play(0, 32, 400000, 8000);
        test.play(1, 32, 400000, 8000);
        test.reached();
        oneObject(due);
        due.sentence("No script, no earlier interrupted run and no resetThunks can make the machine give an answer "
            + "outside the denotation");
        new NoWayOutside(due).playAll(900, 0);
        due.end();
    }
}
