/** Promise 4: the steps of FORCE in their order, and the kinds that are not binary. */
public final class Promise4ForceTest {
    private static final int[] STRICT = {
        ImpreciseRaise.K_ADD, ImpreciseRaise.K_SUB, ImpreciseRaise.K_MUL, ImpreciseRaise.K_DIV, ImpreciseRaise.K_LT,
        ImpreciseRaise.K_IF, ImpreciseRaise.K_SEQ, ImpreciseRaise.K_FST, ImpreciseRaise.K_SND,
    };

    private static void missing(Due due) {
        due.sentence("If n >= count: raise EXC_MISSING");
        for (int kind : STRICT) {
            for (int n : new int[] {1, 2, 7}) {
                for (long script = 0; script < 2; script++) {
                    ImpreciseRaise x = new ImpreciseRaise(8);
                    x.setScript(script);
                    due.add(x, kind, n, n, n);
                    due.raises(x, 0, ImpreciseRaise.EXC_MISSING);
                }
            }
        }
    }

    private static void held(Due due) {
        due.sentence("If node n's state is INT or PAIR: give that value");
        ImpreciseRaise x = Sample.full(8);
        due.gives(x, 3, ImpreciseRaise.R_INT, 5);
        due.gives(x, 3, ImpreciseRaise.R_INT, 5);
        due.gives(x, 0, ImpreciseRaise.R_INT, 8);
        due.gives(x, 7, ImpreciseRaise.R_INT, 1);
        ImpreciseRaise y = new ImpreciseRaise(8);
        due.add(y, ImpreciseRaise.K_SEQ, 1, 1);
        due.add(y, ImpreciseRaise.K_PAIR, 7, 7);
        due.gives(y, 1, ImpreciseRaise.R_PAIR, 1);
        due.gives(y, 0, ImpreciseRaise.R_PAIR, 1);
        due.gives(y, 0, ImpreciseRaise.R_PAIR, 1);
    }

    private static void heldTakesNoBit(Due due) {
        due.sentence("Nothing else happens, and no script bit is taken");
        ImpreciseRaise x = new ImpreciseRaise(16);
        due.add(x, ImpreciseRaise.K_RAISE, 5);
        due.add(x, ImpreciseRaise.K_RAISE, 6);
        due.add(x, ImpreciseRaise.K_CONST, 1);
        due.add(x, ImpreciseRaise.K_PAIR, 2, 2);
        due.add(x, ImpreciseRaise.K_ADD, 2, 2);
        due.add(x, ImpreciseRaise.K_ADD, 4, 4);
        due.add(x, ImpreciseRaise.K_MUL, 0, 1);
        for (int first = 2; first <= 5; first++) {
            due.add(x, ImpreciseRaise.K_SEQ, first, 6);
        }
        // Node 6 begins after 0, 0, 1 and 2 binary nodes; once they hold their values, it takes bit 0 itself.
        int[] bits = {0, 0, 1, 2};
        for (int way = 0; way < 4; way++) {
            x.resetThunks();
            x.setScript(1L << bits[way]);
            due.raises(x, 7 + way, 6);
            x.setScript(1L);
            due.raises(x, 7 + way, 6);
            x.setScript(~1L);
            due.raises(x, 7 + way, 5);
        }
    }

    private static void raise(Due due) {
        due.sentence("If n is K_RAISE: raise its code");
        for (int code = 5; code <= 15; code++) {
            ImpreciseRaise x = new ImpreciseRaise(8);
            due.add(x, ImpreciseRaise.K_RAISE, code);
            for (int kind : new int[] {2, 5, 7, 8, 10, 11}) {
                due.add(x, kind, 0, 0, 0);
            }
            for (int root = 0; root < 7; root++) {
                due.raises(x, root, code);
                // Raised before, but never active: not a loop.
                due.raises(x, root, code);
            }
        }
    }

    private static void loop(Due due) {
        due.sentence("If n is active (its evaluation has begun in this run and not completed): raise EXC_LOOP");
        for (int kind : STRICT) {
            for (long script = 0; script < 2; script++) {
                ImpreciseRaise x = new ImpreciseRaise(8);
                x.setScript(script);
                due.add(x, kind, 0, 0, 0);
                due.raises(x, 0, ImpreciseRaise.EXC_LOOP);
            }
        }
        for (int length = 2; length <= 32; length++) {
            ImpreciseRaise x = new ImpreciseRaise(32);
            for (int i = 0; i < length; i++) {
                due.add(x, STRICT[i % 7], (i + 1) % length, (i + 1) % length, (i + 1) % length);
            }
            for (int root = 0; root < length; root++) {
                due.raises(x, root, ImpreciseRaise.EXC_LOOP);
            }
        }
    }

    /** Node 0 is INT 1, node 1 INT 0, node 2 a pair of node 3 with itself; node 3 demands itself late. */
    private static void lateLoop(Due due) {
        due.sentence("raise EXC_LOOP: demanded as an operand, a branch, a second reference or a field");
        int[][] late = {
            {ImpreciseRaise.K_ADD, 0, 3, 0}, {ImpreciseRaise.K_ADD, 3, 0, 0}, {ImpreciseRaise.K_IF, 0, 3, 0},
            {ImpreciseRaise.K_IF, 1, 0, 3}, {ImpreciseRaise.K_SEQ, 0, 3, 0}, {ImpreciseRaise.K_FST, 2, 0, 0},
            {ImpreciseRaise.K_SND, 2, 0, 0},
        };
        for (int[] node : late) {
            for (long script = 0; script < 2; script++) {
                ImpreciseRaise x = new ImpreciseRaise(8);
                x.setScript(script);
                due.add(x, ImpreciseRaise.K_CONST, 1);
                due.add(x, ImpreciseRaise.K_CONST, 0);
                due.add(x, ImpreciseRaise.K_PAIR, 3, 3);
                due.add(x, node[0], node[1], node[2], node[3]);
                due.raises(x, 3, ImpreciseRaise.EXC_LOOP);
                due.unevaluated(x, 3);
                due.gives(x, 2, ImpreciseRaise.R_PAIR, 2);
            }
        }
    }

    private static void notALoop(Due due) {
        due.sentence("not completed: a node that completed earlier in the same run gives its value");
        for (int kind : STRICT) {
            ImpreciseRaise x = new ImpreciseRaise(8);
            due.add(x, ImpreciseRaise.K_CONST, 1);
            due.add(x, ImpreciseRaise.K_PAIR, 0, 0);
            int shared = due.add(x, kind, kind >= ImpreciseRaise.K_FST ? 1 : 0, 0, 0);
            due.add(x, ImpreciseRaise.K_SUB, shared, shared);
            due.gives(x, 3, ImpreciseRaise.R_INT, 0);
        }
    }

    private static void branches(Due due) {
        ImpreciseRaise x = new ImpreciseRaise(32);
        int zero = x.addNode(ImpreciseRaise.K_CONST, 0, 0, 0);
        int pair = x.addNode(ImpreciseRaise.K_PAIR, 0, 0, 0);
        int taken = x.addNode(ImpreciseRaise.K_SUB, 0, 0, 0);
        int other = x.addNode(ImpreciseRaise.K_ADD, 0, 0, 0);
        int raise = x.addNode(ImpreciseRaise.K_RAISE, 9, 0, 0);

        due.sentence("If v is a PAIR: raise EXC_TYPE");
        int onPair = due.add(x, ImpreciseRaise.K_IF, pair, taken, other);
        due.raises(x, onPair, ImpreciseRaise.EXC_TYPE);
        due.unevaluated(x, taken);
        due.unevaluated(x, other);
        // PAIR 0 must not pass for INT 0.
        ImpreciseRaise y = new ImpreciseRaise(8);
        due.add(y, ImpreciseRaise.K_PAIR, 0, 0);
        due.raises(y, due.add(y, ImpreciseRaise.K_IF, 0, 0, 0), ImpreciseRaise.EXC_TYPE);

        due.sentence("If v is INT not 0: result = FORCE(b)");
        for (int v : new int[] {1, -1, 2, 256, 65536, Integer.MIN_VALUE, Integer.MAX_VALUE}) {
            x.resetThunks();
            int condition = due.add(x, ImpreciseRaise.K_CONST, v);
            int branch = due.add(x, ImpreciseRaise.K_IF, condition, taken, other);
            due.gives(x, branch, ImpreciseRaise.R_INT, 0);
            due.state(x, taken, ImpreciseRaise.R_INT, 0);
            due.unevaluated(x, other);
        }

        due.sentence("If v is INT 0: result = FORCE(c)");
        x.resetThunks();
        due.gives(x, due.add(x, ImpreciseRaise.K_IF, zero, other, taken), ImpreciseRaise.R_INT, 0);
        due.state(x, taken, ImpreciseRaise.R_INT, 0);
        due.unevaluated(x, other);
        due.gives(x, due.add(x, ImpreciseRaise.K_IF, zero, raise, pair), ImpreciseRaise.R_PAIR, pair);
        due.raises(x, due.add(x, ImpreciseRaise.K_IF, zero, pair, raise), 9);
    }

    private static void sequence(Due due) {
        due.sentence("FORCE(a) and drop its value, then result = FORCE(b)");
        ImpreciseRaise x = new ImpreciseRaise(16);
        due.add(x, ImpreciseRaise.K_CONST, 0);
        due.add(x, ImpreciseRaise.K_PAIR, 0, 0);
        due.add(x, ImpreciseRaise.K_ADD, 0, 0);
        due.add(x, ImpreciseRaise.K_RAISE, 9);
        due.add(x, ImpreciseRaise.K_RAISE, 10);
        due.raises(x, due.add(x, ImpreciseRaise.K_SEQ, 3, 2), 9);
        due.unevaluated(x, 2);
        due.raises(x, due.add(x, ImpreciseRaise.K_SEQ, 2, 3), 9);
        due.state(x, 2, ImpreciseRaise.R_INT, 0);
        due.gives(x, due.add(x, ImpreciseRaise.K_SEQ, 2, 1), ImpreciseRaise.R_PAIR, 1);
        due.gives(x, due.add(x, ImpreciseRaise.K_SEQ, 1, 2), ImpreciseRaise.R_INT, 0);
        due.gives(x, due.add(x, ImpreciseRaise.K_SEQ, 1, 1), ImpreciseRaise.R_PAIR, 1);
        due.raises(x, due.add(x, ImpreciseRaise.K_SEQ, 3, 4), 9);
        due.raises(x, due.add(x, ImpreciseRaise.K_SEQ, 0, 15), ImpreciseRaise.EXC_MISSING);
    }

    private static void fieldOfInt(Due due) {
        due.sentence("If v is an INT: raise EXC_TYPE");
        for (int v : new int[] {0, 1, 2, -1, Integer.MIN_VALUE}) {
            ImpreciseRaise x = new ImpreciseRaise(8);
            due.add(x, ImpreciseRaise.K_CONST, v);
            // Node 1 is a pair, so an INT 1 must not pass for its index.
            due.add(x, ImpreciseRaise.K_PAIR, 0, 0);
            due.add(x, ImpreciseRaise.K_FST, 0);
            due.add(x, ImpreciseRaise.K_SND, 0);
            due.raises(x, 2, ImpreciseRaise.EXC_TYPE);
            due.raises(x, 3, ImpreciseRaise.EXC_TYPE);
        }
    }

    private static void fields(Due due) {
        due.sentence("If v is PAIR k: the result is FORCE of the first field of node k for K_FST, "
            + "or FORCE of the second field of node k for K_SND");
        ImpreciseRaise x = new ImpreciseRaise(16);
        due.add(x, ImpreciseRaise.K_PAIR, 2, 3);
        due.add(x, ImpreciseRaise.K_CONST, 4);
        due.add(x, ImpreciseRaise.K_ADD, 1, 1);
        due.add(x, ImpreciseRaise.K_MUL, 1, 1);
        due.add(x, ImpreciseRaise.K_PAIR, 0, 15);
        due.add(x, ImpreciseRaise.K_FST, 0);
        due.add(x, ImpreciseRaise.K_SND, 0);
        due.add(x, ImpreciseRaise.K_FST, 4);
        due.add(x, ImpreciseRaise.K_SND, 7);
        due.add(x, ImpreciseRaise.K_FST, 7);
        due.add(x, ImpreciseRaise.K_SND, 4);
        due.gives(x, 5, ImpreciseRaise.R_INT, 8);
        due.unevaluated(x, 3);
        x.resetThunks();
        due.gives(x, 6, ImpreciseRaise.R_INT, 16);
        due.unevaluated(x, 2);
        // The pair may come from far: nodes 8 and 9 look into the one that node 7 takes out of node 4.
        x.resetThunks();
        due.gives(x, 8, ImpreciseRaise.R_INT, 16);
        due.state(x, 7, ImpreciseRaise.R_PAIR, 0);
        due.gives(x, 9, ImpreciseRaise.R_INT, 8);
        due.raises(x, 10, ImpreciseRaise.EXC_MISSING);
        // A pair is lazy: it may hold itself.
        due.add(x, ImpreciseRaise.K_PAIR, 11, 12);
        due.add(x, ImpreciseRaise.K_FST, 11);
        due.gives(x, 12, ImpreciseRaise.R_PAIR, 11);
        due.add(x, ImpreciseRaise.K_SND, 11);
        x.resetThunks();
        due.gives(x, 13, ImpreciseRaise.R_PAIR, 11);
        // The last node of a full graph may be the pair.
        due.add(x, ImpreciseRaise.K_FST, 15);
        due.add(x, ImpreciseRaise.K_PAIR, 1, 15);
        due.gives(x, 14, ImpreciseRaise.R_INT, 4);
        due.gives(x, 10, ImpreciseRaise.R_PAIR, 15);
    }

    private static void update(Due due) {
        due.sentence("On a result: n stops being active and its state becomes the result (its update)");
        ImpreciseRaise x = Sample.full(32);
        for (int i = 0; i < 31; i++) {
            due.unevaluated(x, i);
        }
        x.setScript(0x5A5A5A5A5A5A5A5AL);
        due.gives(x, 0, ImpreciseRaise.R_INT, 32);
        for (int i = 0; i < 32; i++) {
            due.state(x, i, ImpreciseRaise.R_INT, 32 - i);
        }
        ImpreciseRaise y = new ImpreciseRaise(8);
        due.add(y, ImpreciseRaise.K_CONST, 1);
        due.add(y, ImpreciseRaise.K_PAIR, 1, 1);
        due.add(y, ImpreciseRaise.K_IF, 0, 1, 0);
        due.add(y, ImpreciseRaise.K_SEQ, 0, 2);
        due.add(y, ImpreciseRaise.K_FST, 3);
        due.add(y, ImpreciseRaise.K_SND, 4);
        due.gives(y, 5, ImpreciseRaise.R_PAIR, 1);
        for (int i = 1; i <= 5; i++) {
            due.state(y, i, ImpreciseRaise.R_PAIR, 1);
        }
    }

    public static void main(String[] args) {
        Due due = new Due("Promise4ForceTest");
        missing(due);
        held(due);
        heldTakesNoBit(due);
        raise(due);
        loop(due);
        lateLoop(due);
        notALoop(due);
        branches(due);
        sequence(due);
        fieldOfInt(due);
        fields(due);
        update(due);
        due.end();
    }
}
