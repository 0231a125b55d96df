/** Promise 1: clamping, and what a fresh object answers. */
public final class Promise1ConstructionTest {
    private static void acceptsEveryInt(Due due) {
        due.sentence("accepts every int");
        for (int shift = 0; shift < 32; shift++) {
            int power = 1 << shift;
            for (int capacity : new int[] {power, power - 1, power + 1, -power, ~power}) {
                ImpreciseRaise x = new ImpreciseRaise(capacity);
                due.is("new(" + capacity + ").capacity()", x.capacity(), Math.max(8, Math.min(32, capacity)));
                due.add(x, ImpreciseRaise.K_CONST, capacity);
            }
        }
    }

    /** CAP is not only told: it bounds the nodes and the references. */
    private static void hasCap(Due due, int capacity, int cap) {
        ImpreciseRaise x = new ImpreciseRaise(capacity);
        due.is("new(" + capacity + ").capacity()", x.capacity(), cap);
        due.refuses(x, ImpreciseRaise.K_FST, cap, 0, 0);
        for (int i = 0; i < cap; i++) {
            due.add(x, ImpreciseRaise.K_FST, cap - 1);
        }
        due.refuses(x, ImpreciseRaise.K_CONST, 0, 0, 0);
    }

    private static void clamping(Due due) {
        due.sentence("below MIN_CAP it becomes MIN_CAP (8)");
        for (int capacity : new int[] {Integer.MIN_VALUE, -33, -8, -1, 0, 1, 7}) {
            hasCap(due, capacity, 8);
        }
        due.sentence("above MAX_CAP it becomes MAX_CAP (32)");
        for (int capacity : new int[] {33, 34, 64, 256, Integer.MAX_VALUE}) {
            hasCap(due, capacity, 32);
        }
        due.sentence("otherwise it is capacity itself: at MIN_CAP");
        hasCap(due, 8, 8);
        due.sentence("otherwise it is capacity itself: at MAX_CAP");
        hasCap(due, 32, 32);
        due.sentence("otherwise it is capacity itself: between the bounds");
        for (int capacity = 9; capacity < 32; capacity++) {
            hasCap(due, capacity, capacity);
        }
    }

    private static void capNeverChanges(Due due) {
        due.sentence("CAP never changes afterwards");
        for (int capacity : new int[] {-1, 8, 9, 20, 31, 32, 33}) {
            ImpreciseRaise x = new ImpreciseRaise(capacity);
            int cap = x.capacity();
            for (int i = 0; i <= cap; i++) {
                x.addNode(i % 2 == 0 ? ImpreciseRaise.K_ADD : ImpreciseRaise.K_CONST, cap - 1, 0, 0);
                due.is("capacity() after addNode", x.capacity(), cap);
            }
            x.run(0);
            due.is("capacity() after a run", x.capacity(), cap);
            x.run(cap);
            due.is("capacity() after a refused run", x.capacity(), cap);
            x.setScript(-1L);
            due.is("capacity() after setScript", x.capacity(), cap);
            x.resetThunks();
            due.is("capacity() after resetThunks", x.capacity(), cap);
        }
    }

    private static final int[] CAPACITIES = {Integer.MIN_VALUE, 0, 7, 8, 9, 31, 32, 33, Integer.MAX_VALUE};

    private static void fresh(Due due) {
        // Whatever other objects have been through, a fresh one knows nothing of it.
        Sample.everyKind();
        Sample.full(32).run(0);
        due.sentence("no nodes, so count = 0");
        for (int capacity : CAPACITIES) {
            due.is("nodeCount()", new ImpreciseRaise(capacity).nodeCount(), 0);
        }
        due.sentence("script word 0");
        for (int capacity : CAPACITIES) {
            due.is("script()", new ImpreciseRaise(capacity).script(), 0);
        }
        due.sentence("lastOutcome R_NONE, lastException 0 and lastValue 0");
        for (int capacity : CAPACITIES) {
            due.last(new ImpreciseRaise(capacity), ImpreciseRaise.R_NONE, 0, 0);
        }
        due.sentence("every per-node query answers its out-of-range answer");
        for (int capacity : CAPACITIES) {
            ImpreciseRaise x = new ImpreciseRaise(capacity);
            for (int i = -34; i <= 34; i++) {
                due.outOfRange(x, i);
            }
            for (int i : Sample.ANY_INT) {
                due.outOfRange(x, i);
            }
        }
    }

    public static void main(String[] args) {
        Due due = new Due("Promise1ConstructionTest");
        acceptsEveryInt(due);
        clamping(due);
        capNeverChanges(due);
        fresh(due);
        due.end();
    }
}
