/** Promise 7: nodeCount grows with accepted nodes alone; capacity stays within its bounds. */
public final class Promise7CountTest {
    private static void atFirst(Due due) {
        due.sentence("It is 0 at first");
        for (int capacity : Sample.ANY_INT) {
            due.is("nodeCount()", new ImpreciseRaise(capacity).nodeCount(), 0);
        }
    }

    private static void grows(Due due) {
        due.sentence("grows by one with each accepted addNode");
        for (int cap = 8; cap <= 32; cap++) {
            ImpreciseRaise x = new ImpreciseRaise(cap);
            for (int i = 0; i < cap; i++) {
                due.is("nodeCount()", x.nodeCount(), i);
                due.is("addNode", x.addNode(i % 12, 5, 5, 5), i);
                due.is("nodeCount()", x.nodeCount(), i + 1);
            }
        }
    }

    private static void notAfterRefusal(Due due) {
        due.sentence("with each accepted addNode: not with a refused one, nor with any other call");
        ImpreciseRaise x = new ImpreciseRaise(9);
        for (int i = 0; i < 9; i++) {
            due.refuses(x, 12, 0, 0, 0);
            due.refuses(x, -1, 0, 0, 0);
            due.refuses(x, ImpreciseRaise.K_RAISE, 4, 0, 0);
            due.refuses(x, ImpreciseRaise.K_RAISE, 16, 0, 0);
            due.refuses(x, ImpreciseRaise.K_SND, 9, 0, 0);
            due.refuses(x, ImpreciseRaise.K_IF, 0, 0, -1);
            x.run(i);
            x.run(i - 1);
            x.resetThunks();
            x.setScript(i);
            due.is("nodeCount()", x.nodeCount(), i);
            due.add(x, ImpreciseRaise.K_CONST, i);
        }
    }

    private static void neverExceedsCap(Due due) {
        due.sentence("and never exceeds CAP");
        for (int capacity : new int[] {-1, 8, 9, 31, 32, 33}) {
            ImpreciseRaise x = new ImpreciseRaise(capacity);
            for (int i = 0; i < 70; i++) {
                x.addNode(ImpreciseRaise.K_CONST, i, 0, 0);
            }
            due.is("nodeCount()", x.nodeCount(), x.capacity());
            due.is("nodeCount()", x.nodeCount(), Math.max(8, Math.min(32, capacity)));
        }
    }

    private static void capacityInBounds(Due due) {
        due.sentence("capacity() answers CAP after clamping, always in MIN_CAP..MAX_CAP");
        for (int capacity : Sample.ANY_INT) {
            int cap = new ImpreciseRaise(capacity).capacity();
            due.isTrue("MIN_CAP <= " + cap + " <= MAX_CAP", cap >= 8 && cap <= 32);
            due.is("capacity()", cap, Math.max(8, Math.min(32, capacity)));
        }
    }

    private static void changeNothing(Due due) {
        due.sentence("Neither changes anything");
        Twins.queriesChangeNothing(due, Sample::everyKind, "nodeCount", "capacity");
    }

    public static void main(String[] args) {
        Due due = new Due("Promise7CountTest");
        atFirst(due);
        grows(due);
        notAfterRefusal(due);
        neverExceedsCap(due);
        capacityInBounds(due);
        changeNothing(due);
        due.end();
    }
}
