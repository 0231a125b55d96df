/** Promise 5: the last answers tell of the last accepted run and of nothing else. */
public final class Promise5LastTest {
    private static void callEverythingButRun(ImpreciseRaise x) {
        x.resetThunks();
        x.setScript(3L);
        x.addNode(12, 0, 0, 0);
        x.addNode(ImpreciseRaise.K_CONST, 77, 0, 0);
        x.nodeState(0);
        x.denKind(0);
        x.denSet(0);
        x.denValue(0);
    }

    private static void beforeAnyRun(Due due) {
        due.sentence("R_NONE before any accepted run; 0 if there has been no accepted run");
        ImpreciseRaise fresh = new ImpreciseRaise(8);
        due.last(fresh, ImpreciseRaise.R_NONE, 0, 0);
        fresh.run(0);
        due.last(fresh, ImpreciseRaise.R_NONE, 0, 0);
        ImpreciseRaise x = Sample.outcomes();
        due.last(x, ImpreciseRaise.R_NONE, 0, 0);
        callEverythingButRun(x);
        due.last(x, ImpreciseRaise.R_NONE, 0, 0);
        x.run(-1);
        x.run(x.nodeCount());
        due.last(x, ImpreciseRaise.R_NONE, 0, 0);
    }

    private static void afterValue(Due due) {
        due.sentence("lastOutcome() answers R_INT, R_PAIR or R_EXC as set by that run");
        ImpreciseRaise x = Sample.outcomes();
        int[] kinds = {
            ImpreciseRaise.R_PAIR, ImpreciseRaise.R_INT, ImpreciseRaise.R_INT, ImpreciseRaise.R_EXC,
            ImpreciseRaise.R_PAIR,
        };
        for (int before = 0; before < 5; before++) {
            for (int root = 0; root < 5; root++) {
                x.run(before);
                due.is("run(" + root + ")", x.run(root), kinds[root]);
                due.is("lastOutcome()", x.lastOutcome(), kinds[root]);
            }
        }
    }

    private static void exceptionOfTheRun(Due due) {
        due.sentence("lastException() answers that run's exception code, and 0 if it gave a value");
        ImpreciseRaise x = Sample.outcomes();
        for (int root : new int[] {0, 1, 2, 4}) {
            x.run(3);
            due.is("lastException()", x.lastException(), 13);
            x.run(root);
            due.is("lastException()", x.lastException(), 0);
        }
    }

    private static void valueOfTheRun(Due due) {
        due.sentence("lastValue() answers the int value, or the pair node index, of that run, and 0 if it raised");
        ImpreciseRaise x = Sample.outcomes();
        int[] values = {0, 0, -5, 0, 4};
        for (int root : new int[] {2, 3, 4, 3, 0, 2, 1, 4, 0, 4, 1}) {
            x.run(root);
            due.is("lastValue()", x.lastValue(), values[root]);
        }
    }

    private static void refusedDoesNotCount(Due due) {
        due.sentence("A run refused with R_NONE does not count");
        int[][] rows = {{0, 2, 0, 0}, {1, 1, 0, 0}, {2, 1, -5, 0}, {3, 3, 0, 13}, {4, 2, 4, 0}};
        for (int[] row : rows) {
            ImpreciseRaise x = Sample.outcomes();
            x.run(row[0]);
            for (int refused : new int[] {Integer.MIN_VALUE, -1, 5, 7, 8, 32, Integer.MAX_VALUE}) {
                due.is("run(" + refused + ")", x.run(refused), ImpreciseRaise.R_NONE);
                due.last(x, row[1], row[2], row[3]);
            }
            callEverythingButRun(x);
            due.last(x, row[1], row[2], row[3]);
        }
    }

    private static void changeNothing(Due due) {
        due.sentence("None of the three changes any state");
        Twins.queriesChangeNothing(due, Sample::everyKind, "lastOutcome", "lastException", "lastValue");
        Twins.queriesChangeNothing(due, Sample::interrupted, "lastOutcome", "lastException", "lastValue");
    }

    public static void main(String[] args) {
        Due due = new Due("Promise5LastTest");
        beforeAnyRun(due);
        afterValue(due);
        exceptionOfTheRun(due);
        valueOfTheRun(due);
        refusedDoesNotCount(due);
        changeNothing(due);
        due.end();
    }
}
