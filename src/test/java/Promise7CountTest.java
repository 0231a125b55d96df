/** Promise 7: nodeCount grows with accepted nodes alone; capacity stays within its bounds. */
public final class Promise7CountTest {
    public static void main(String[] args) {
        Due due = new Due("Promise7CountTest");
        for (int capacity : new int[] {-3, 8, 13, 32, 50}) {
            ImpreciseRaise x = new ImpreciseRaise(capacity);
            int cap = x.capacity();
            due.is("capacity() in bounds", cap >= 8 && cap <= 32 ? 1 : 0, 1);
            for (int i = 0; i < cap; i++) {
                due.is("nodeCount()", x.nodeCount(), i);
                x.addNode(12, 0, 0, 0);
                x.addNode(ImpreciseRaise.K_RAISE, 4, 0, 0);
                x.addNode(ImpreciseRaise.K_SND, cap, 0, 0);
                due.is("nodeCount() after refusals", x.nodeCount(), i);
                due.add(x, ImpreciseRaise.K_CONST, i);
                x.run(i);
                x.resetThunks();
                due.is("nodeCount()", x.nodeCount(), i + 1);
            }
            x.addNode(ImpreciseRaise.K_CONST, 0, 0, 0);
            due.is("nodeCount() when full", x.nodeCount(), cap);
            due.is("capacity()", x.capacity(), cap);
        }
        due.end();
    }
}
