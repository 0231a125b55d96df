/** Promise 4: what a binary node makes of its operands, in either order, and what it raises. */
public final class Promise4BinaryTest {
    private static final int MIN = Integer.MIN_VALUE;
    private static final int MAX = Integer.MAX_VALUE;

    /** A row holds left, right and result. */
    private static void computes(Due due, int kind, int[][] rows) {
        for (int[] row : rows) {
            for (long script = 0; script < 2; script++) {
                ImpreciseRaise x = new ImpreciseRaise(8);
                x.setScript(script);
                due.add(x, ImpreciseRaise.K_CONST, row[0]);
                due.add(x, ImpreciseRaise.K_CONST, row[1]);
                due.add(x, kind, 0, 1);
                due.gives(x, 2, ImpreciseRaise.R_INT, row[2]);
                due.state(x, 2, ImpreciseRaise.R_INT, row[2]);
                due.denotes(x, 2, ImpreciseRaise.R_INT, row[2]);
            }
        }
    }

    private static void arithmetic(Due due) {
        due.sentence("INT of x+y (wrapping 32-bit arithmetic)");
        computes(due, ImpreciseRaise.K_ADD, new int[][] {
            {2, 3, 5}, {-2, 2, 0}, {MAX, 1, MIN}, {1, MAX, MIN}, {MIN, -1, MAX}, {MIN, MIN, 0}, {MAX, MAX, -2},
        });
        due.sentence("INT of x-y (wrapping 32-bit arithmetic)");
        computes(due, ImpreciseRaise.K_SUB, new int[][] {
            {2, 3, -1}, {3, 2, 1}, {MIN, 1, MAX}, {MAX, -1, MIN}, {0, MIN, MIN}, {MIN, MIN, 0}, {-1, MIN, MAX},
        });
        due.sentence("INT of x*y (wrapping 32-bit arithmetic)");
        computes(due, ImpreciseRaise.K_MUL, new int[][] {
            {-4, 3, -12}, {0, MIN, 0}, {65536, 65536, 0}, {65536, 32768, MIN}, {MIN, -1, MIN}, {MAX, MAX, 1},
            {46341, 46341, -2147479015}, {MAX, 2, -2},
        });
        due.sentence("x/y truncated toward zero");
        computes(due, ImpreciseRaise.K_DIV, new int[][] {
            {7, 2, 3}, {-7, 2, -3}, {7, -2, -3}, {-7, -2, 3}, {1, 2, 0}, {-1, 2, 0}, {0, 5, 0}, {0, -5, 0},
            {MIN, 1, MIN}, {MIN, 2, -1073741824}, {MIN, MAX, -1}, {MAX, MIN, 0}, {MIN, MIN, 1}, {MAX, -1, -MAX},
        });
        due.sentence("and wrapping, so Integer.MIN_VALUE / -1 = Integer.MIN_VALUE");
        computes(due, ImpreciseRaise.K_DIV, new int[][] {{MIN, -1, MIN}});
        due.sentence("for K_LT, 1 if x < y as signed ints and else 0");
        computes(due, ImpreciseRaise.K_LT, new int[][] {
            {1, 2, 1}, {2, 2, 0}, {3, 2, 0}, {-1, 0, 1}, {0, -1, 0}, {MIN, MAX, 1}, {MAX, MIN, 0}, {MIN, MIN, 0},
            {MAX, MAX, 0}, {MIN, MIN + 1, 1}, {MAX - 1, MAX, 1}, {MIN, 0, 1}, {0, MIN, 0},
        });
    }

    /** Node 0 is INT 0, 1 a pair, 2 raises 9, 3 raises 10, and node 4 is the binary node. */
    private static ImpreciseRaise binary(Due due, int kind, int left, int right, long script) {
        ImpreciseRaise x = new ImpreciseRaise(8);
        x.setScript(script);
        due.add(x, ImpreciseRaise.K_CONST, 0);
        due.add(x, ImpreciseRaise.K_PAIR, 0, 0);
        due.add(x, ImpreciseRaise.K_RAISE, 9);
        due.add(x, ImpreciseRaise.K_RAISE, 10);
        due.add(x, kind, left, right);
        return x;
    }

    private static void raises(Due due, int left, int right, int codeLeftFirst, int codeRightFirst) {
        for (int kind : Sample.BINARY) {
            ImpreciseRaise x = binary(due, kind, left, right, 0L);
            due.raises(x, 4, codeLeftFirst);
            due.unevaluated(x, 4);
            ImpreciseRaise y = binary(due, kind, left, right, 1L);
            due.raises(y, 4, codeRightFirst);
            due.unevaluated(y, 4);
        }
    }

    /** PAIR 0 must not pass for INT 0, as a divisor or else. */
    private static void pairZero(Due due) {
        for (int kind : Sample.BINARY) {
            for (long script = 0; script < 2; script++) {
                ImpreciseRaise x = new ImpreciseRaise(8);
                x.setScript(script);
                due.add(x, ImpreciseRaise.K_PAIR, 0, 0);
                due.add(x, ImpreciseRaise.K_CONST, 0);
                due.raises(x, due.add(x, kind, 0, 0), ImpreciseRaise.EXC_TYPE);
                due.raises(x, due.add(x, kind, 1, 0), ImpreciseRaise.EXC_TYPE);
                due.raises(x, due.add(x, kind, 0, 1), ImpreciseRaise.EXC_TYPE);
            }
        }
    }

    private static void faults(Due due) {
        due.sentence("if x or y is a PAIR: raise EXC_TYPE");
        raises(due, 1, 0, ImpreciseRaise.EXC_TYPE, ImpreciseRaise.EXC_TYPE);
        raises(due, 0, 1, ImpreciseRaise.EXC_TYPE, ImpreciseRaise.EXC_TYPE);
        raises(due, 1, 1, ImpreciseRaise.EXC_TYPE, ImpreciseRaise.EXC_TYPE);
        pairZero(due);

        due.sentence("With bit 0, x = FORCE(a) and then y = FORCE(b). With bit 1, y = FORCE(b) and then x = FORCE(a)");
        raises(due, 2, 3, 9, 10);
        raises(due, 3, 2, 10, 9);
        raises(due, 2, 7, 9, ImpreciseRaise.EXC_MISSING);
        raises(due, 4, 2, ImpreciseRaise.EXC_LOOP, 9);

        due.sentence("Then: both operands are forced before a PAIR or a 0 is looked at");
        raises(due, 1, 2, 9, 9);
        raises(due, 2, 1, 9, 9);
        raises(due, 0, 2, 9, 9);
        raises(due, 2, 0, 9, 9);
        raises(due, 1, 7, ImpreciseRaise.EXC_MISSING, ImpreciseRaise.EXC_MISSING);
    }

    private static void division(Due due) {
        due.sentence("if the kind is K_DIV and y = 0: raise EXC_DIVZERO");
        for (int dividend : new int[] {0, 1, -1, MIN, MAX}) {
            for (long script = 0; script < 2; script++) {
                ImpreciseRaise x = binary(due, ImpreciseRaise.K_DIV, 5, 0, script);
                due.add(x, ImpreciseRaise.K_CONST, dividend);
                due.raises(x, 4, ImpreciseRaise.EXC_DIVZERO);
                due.unevaluated(x, 4);
                due.denotesSet(x, 4, Sample.DIVZERO);
            }
        }
        for (int kind : Sample.BINARY) {
            if (kind != ImpreciseRaise.K_DIV) {
                due.gives(binary(due, kind, 0, 0, 0L), 4, ImpreciseRaise.R_INT, 0);
            }
        }
    }

    public static void main(String[] args) {
        Due due = new Due("Promise4BinaryTest");
        arithmetic(due);
        faults(due);
        division(due);
        due.end();
    }
}
