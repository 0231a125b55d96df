/** Promise 2: which arguments a kind uses, and references at the edges, to itself and to later nodes. */
public final class Promise2ReferenceTest {
    private static void constants(Due due) {
        due.sentence("K_CONST: a is the int value; every a is accepted");
        for (int a : Sample.ANY_INT) {
            ImpreciseRaise x = new ImpreciseRaise(8);
            due.add(x, ImpreciseRaise.K_CONST, a, 0, 0);
            due.state(x, 0, ImpreciseRaise.R_INT, a);
            due.denotes(x, 0, ImpreciseRaise.R_INT, a);
        }
    }

    private static ImpreciseRaise withNode(Due due, int kind, int a, int b, int c) {
        ImpreciseRaise x = new ImpreciseRaise(8);
        due.add(x, ImpreciseRaise.K_CONST, 3, 0, 0);
        due.add(x, ImpreciseRaise.K_PAIR, 0, 5, 0);
        due.add(x, kind, a, b, c);
        return x;
    }

    private static void ignoredArguments(Due due) {
        due.sentence("arguments not listed are ignored and may hold any int");
        for (int kind = 0; kind <= 11; kind++) {
            int used = kind <= ImpreciseRaise.K_RAISE ? 1 : Sample.REFERENCES[kind];
            int a = kind <= ImpreciseRaise.K_RAISE ? 5 : (kind >= ImpreciseRaise.K_FST ? 1 : 0);
            for (int any : Sample.ANY_INT) {
                int b = used < 2 ? any : 0;
                int c = used < 3 ? any : 0;
                Twins.sameEverAfter(due, withNode(due, kind, a, b, c), withNode(due, kind, a, 0, 0));
            }
        }
    }

    /** Node 0 is INT 40 and node CAP-1 is INT 2; between them a binary node uses both edges, in either place. */
    private static void edges(Due due) {
        due.sentence("A reference is an int in 0..CAP-1");
        for (int cap = 8; cap <= 32; cap++) {
            for (int kind = 2; kind <= 11; kind++) {
                for (int edge : new int[] {0, cap - 1}) {
                    due.add(new ImpreciseRaise(cap), kind, edge, edge, edge);
                }
            }
            ImpreciseRaise x = new ImpreciseRaise(cap);
            due.add(x, ImpreciseRaise.K_CONST, 40);
            due.add(x, ImpreciseRaise.K_SUB, 0, cap - 1);
            due.add(x, ImpreciseRaise.K_SUB, cap - 1, 0);
            for (int i = 3; i < cap - 1; i++) {
                due.add(x, ImpreciseRaise.K_RAISE, 5);
            }
            due.raises(x, 1, ImpreciseRaise.EXC_MISSING);
            due.add(x, ImpreciseRaise.K_CONST, 2);
            due.gives(x, 1, ImpreciseRaise.R_INT, 38);
            due.gives(x, 2, ImpreciseRaise.R_INT, -38);
        }
    }

    private static void ownIndex(Due due) {
        due.sentence("It may name a node not added yet: its own new index");
        for (int before = 0; before < 8; before++) {
            for (int kind = 2; kind <= 11; kind++) {
                ImpreciseRaise x = new ImpreciseRaise(8);
                for (int i = 0; i < before; i++) {
                    due.add(x, ImpreciseRaise.K_CONST, 1);
                }
                int own = due.add(x, kind, before, before, before);
                // Its own index is no longer missing once the node is there.
                if (kind == ImpreciseRaise.K_PAIR) {
                    due.denotes(x, own, ImpreciseRaise.R_PAIR, own);
                    due.gives(x, own, ImpreciseRaise.R_PAIR, own);
                } else {
                    due.denotesSet(x, own, ImpreciseRaise.ALL_EXC);
                    due.raises(x, own, ImpreciseRaise.EXC_LOOP);
                }
            }
        }
    }

    private static void laterIndex(Due due) {
        due.sentence("or a later one");
        for (int later = 1; later < 8; later++) {
            for (int kind = 2; kind <= 11; kind++) {
                due.add(new ImpreciseRaise(8), kind, later, later, later);
            }
        }
    }

    /** Each way in which a node leans on reference r, over node 0, INT 1, and node 1, a pair of r and r. */
    private static void lean(Due due, ImpreciseRaise x, int r) {
        due.add(x, ImpreciseRaise.K_CONST, 1);
        due.add(x, ImpreciseRaise.K_PAIR, r, r);
        due.add(x, ImpreciseRaise.K_MUL, r, 0);
        due.add(x, ImpreciseRaise.K_MUL, 0, r);
        due.add(x, ImpreciseRaise.K_IF, r, r, 0);
        due.add(x, ImpreciseRaise.K_IF, 0, r, 0);
        due.add(x, ImpreciseRaise.K_SEQ, r, r);
        due.add(x, ImpreciseRaise.K_SEQ, 0, r);
        due.add(x, ImpreciseRaise.K_FST, 1);
        due.add(x, ImpreciseRaise.K_SND, 1);
    }

    private static void missing(Due due) {
        due.sentence("Such a reference is MISSING for as long as its index is >= count");
        for (int r : new int[] {10, 12, 15}) {
            ImpreciseRaise x = new ImpreciseRaise(16);
            lean(due, x, r);
            for (int count = 10; count <= r; count++) {
                for (int i = 2; i < 10; i++) {
                    due.denotesSet(x, i, Sample.MISSING);
                    due.raises(x, i, ImpreciseRaise.EXC_MISSING);
                    due.unevaluated(x, i);
                }
                due.add(x, ImpreciseRaise.K_CONST, 77);
            }
        }
    }

    private static void noLongerMissing(Due due) {
        due.sentence("It stops being missing once that node is added");
        for (int r : new int[] {10, 12, 15}) {
            ImpreciseRaise x = new ImpreciseRaise(16);
            lean(due, x, r);
            for (int count = 10; count <= r; count++) {
                x.run(count - 8);
                due.add(x, ImpreciseRaise.K_CONST, 77);
            }
            for (int i = 2; i < 10; i++) {
                due.denotes(x, i, ImpreciseRaise.R_INT, 77);
                due.gives(x, i, ImpreciseRaise.R_INT, 77);
                due.state(x, i, ImpreciseRaise.R_INT, 77);
            }
        }
    }

    private static void refusedIsNotAdded(Due due) {
        due.sentence("It stops being missing once that node is added: a refused one is not");
        ImpreciseRaise x = new ImpreciseRaise(8);
        due.add(x, ImpreciseRaise.K_SEQ, 1, 1);
        due.refuses(x, ImpreciseRaise.K_RAISE, 4, 0, 0);
        due.refuses(x, ImpreciseRaise.K_FST, 8, 0, 0);
        due.denotesSet(x, 0, Sample.MISSING);
        due.raises(x, 0, ImpreciseRaise.EXC_MISSING);
    }

    public static void main(String[] args) {
        Due due = new Due("Promise2ReferenceTest");
        constants(due);
        ignoredArguments(due);
        edges(due);
        ownIndex(due);
        laterIndex(due);
        missing(due);
        noLongerMissing(due);
        refusedIsNotAdded(due);
        due.end();
    }
}
