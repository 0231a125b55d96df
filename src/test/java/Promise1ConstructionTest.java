/** Promise 1: clamping, and what a fresh object answers. */
public final class Promise1ConstructionTest {
    private static final int[][] CLAMPED = {
        {Integer.MIN_VALUE, 8}, {-1, 8}, {0, 8}, {7, 8}, {8, 8}, {9, 9}, {20, 20},
        {31, 31}, {32, 32}, {33, 32}, {Integer.MAX_VALUE, 32},
    };

    private static void fresh(Due due, int capacity, int cap) {
        ImpreciseRaise x = new ImpreciseRaise(capacity);
        due.is("new(" + capacity + ").capacity()", x.capacity(), cap);
        due.is("nodeCount()", x.nodeCount(), 0);
        due.is("script()", x.script(), 0);
        due.last(x, ImpreciseRaise.R_NONE, 0, 0);
        for (int i = -2; i <= 34; i++) {
            due.outOfRange(x, i);
            due.is("run(" + i + ")", x.run(i), ImpreciseRaise.R_NONE);
        }
        due.outOfRange(x, Integer.MIN_VALUE);
        due.outOfRange(x, Integer.MAX_VALUE);
    }

    private static void capNeverChanges(Due due, int capacity, int cap) {
        ImpreciseRaise x = new ImpreciseRaise(capacity);
        for (int i = 0; i < cap; i++) {
            due.add(x, ImpreciseRaise.K_ADD, cap - 1, 0);
            due.is("capacity()", x.capacity(), cap);
        }
        due.is("addNode on a full graph", x.addNode(ImpreciseRaise.K_CONST, 1, 0, 0), -1);
        x.run(0);
        x.resetThunks();
        due.is("capacity()", x.capacity(), cap);
    }

    private static void objectsAreApart(Due due) {
        ImpreciseRaise x = new ImpreciseRaise(8);
        ImpreciseRaise y = new ImpreciseRaise(8);
        due.add(x, ImpreciseRaise.K_CONST, 3);
        x.setScript(9L);
        x.run(0);
        due.is("nodeCount() of the other", y.nodeCount(), 0);
        due.is("script() of the other", y.script(), 0);
        due.last(y, ImpreciseRaise.R_NONE, 0, 0);
        due.outOfRange(y, 0);
    }

    public static void main(String[] args) {
        Due due = new Due("Promise1ConstructionTest");
        for (int[] row : CLAMPED) {
            fresh(due, row[0], row[1]);
            capNeverChanges(due, row[0], row[1]);
        }
        objectsAreApart(due);
        due.end();
    }
}
