/** Promise 4: which roots run refuses, and what an accepted run sets and leaves. */
public final class Promise4RootTest {
    private static void refuses(Due due, ImpreciseRaise x, int root) {
        due.is("run(" + root + ")", x.run(root), ImpreciseRaise.R_NONE);
    }

    private static void refusedRoots(Due due) {
        due.sentence("If root is not in 0..count-1, it answers R_NONE");
        ImpreciseRaise fresh = new ImpreciseRaise(8);
        for (int root : Sample.ANY_INT) {
            refuses(due, fresh, root);
        }
        ImpreciseRaise x = Sample.everyKind();
        for (int root : new int[] {Integer.MIN_VALUE, -16, -1, 13, 14, 15, 16, 31, 32, Integer.MAX_VALUE}) {
            refuses(due, x, root);
        }
        for (int cap : new int[] {8, 32}) {
            ImpreciseRaise full = Sample.full(cap);
            for (int root : new int[] {Integer.MIN_VALUE, -1, cap, cap + 1, 64, Integer.MAX_VALUE}) {
                refuses(due, full, root);
            }
        }
    }

    private static void refusalChangesNothing(Due due) {
        due.sentence("and changes nothing. Node states, the script and the last* answers all stay as they were");
        for (int root : new int[] {Integer.MIN_VALUE, -1, 13, 14, 16, Integer.MAX_VALUE}) {
            for (int before : new int[] {4, 7, 9}) {
                ImpreciseRaise x = Sample.everyKind();
                ImpreciseRaise twin = Sample.everyKind();
                x.run(before);
                twin.run(before);
                x.run(root);
                Twins.sameEverAfter(due, x, twin);
            }
        }
        ImpreciseRaise fresh = new ImpreciseRaise(8);
        fresh.run(0);
        Twins.same(due, fresh, new ImpreciseRaise(8));
    }

    private static void edgesAreAccepted(Due due) {
        due.sentence("Otherwise it sets a bit position pos to 0 and performs FORCE(root): at 0 and at count-1");
        for (int count = 1; count <= 32; count++) {
            ImpreciseRaise x = new ImpreciseRaise(32);
            for (int i = 0; i < count; i++) {
                due.add(x, ImpreciseRaise.K_CONST, 10 + i);
            }
            due.gives(x, 0, ImpreciseRaise.R_INT, 10);
            due.gives(x, count - 1, ImpreciseRaise.R_INT, 9 + count);
        }
    }

    /** Each outcome comes after each other one: nothing of the run before may stay. */
    private static void table(Due due) {
        ImpreciseRaise x = Sample.outcomes();
        due.sentence("INT v | R_INT | v | 0");
        for (int before = 0; before < 5; before++) {
            x.run(before);
            due.gives(x, 1, ImpreciseRaise.R_INT, 0);
            x.run(before);
            due.gives(x, 2, ImpreciseRaise.R_INT, -5);
        }
        due.sentence("PAIR k | R_PAIR | k | 0");
        for (int before = 0; before < 5; before++) {
            x.run(before);
            due.gives(x, 0, ImpreciseRaise.R_PAIR, 0);
            x.run(before);
            due.gives(x, 4, ImpreciseRaise.R_PAIR, 4);
        }
        due.sentence("exception e | R_EXC | 0 | e");
        for (int before = 0; before < 5; before++) {
            x.run(before);
            due.raises(x, 3, 13);
        }
    }

    private static void changesOnlyStates(Due due) {
        due.sentence("It does not change nodes, count, CAP or the script");
        for (int root = 0; root < 13; root++) {
            ImpreciseRaise x = Sample.everyKind();
            ImpreciseRaise twin = Sample.everyKind();
            x.run(root);
            due.is("nodeCount()", x.nodeCount(), 13);
            due.is("capacity()", x.capacity(), 16);
            due.is("script()", x.script(), 5);
            for (int i = 0; i < 13; i++) {
                due.is("nodeKind(" + i + ")", x.nodeKind(i), twin.nodeKind(i));
            }
            // Bring both to the same states and last answers: then only changed nodes could tell them apart.
            x.resetThunks();
            twin.resetThunks();
            x.run(0);
            twin.run(0);
            Twins.sameEverAfter(due, x, twin);
        }
    }

    public static void main(String[] args) {
        Due due = new Due("Promise4RootTest");
        refusedRoots(due);
        refusalChangesNothing(due);
        edgesAreAccepted(due);
        table(due);
        changesOnlyStates(due);
        due.end();
    }
}
