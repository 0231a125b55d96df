import java.util.function.Supplier;

/** Promise 2: the four refusal conditions, their order, and that a refusal changes nothing. */
public final class Promise2RefusalTest {
    private static final int[] NO_KINDS = {Integer.MIN_VALUE, -12, -1, 12, 13, 32, Integer.MAX_VALUE};
    private static final int[] NO_CODES = {Integer.MIN_VALUE, -5, -1, 0, 1, 2, 3, 4, 16, 17, 31, 37, Integer.MAX_VALUE};

    private static void full(Due due) {
        due.sentence("count == CAP (the graph is full)");
        for (int cap = 8; cap <= 32; cap++) {
            ImpreciseRaise x = new ImpreciseRaise(cap);
            for (int i = 0; i < cap; i++) {
                due.add(x, i % 12, 5, 5, 5);
            }
            for (int kind = 0; kind <= 11; kind++) {
                due.refuses(x, kind, 5, 5, 5);
            }
        }
    }

    private static void unknownKind(Due due) {
        due.sentence("kind is not in 0..11");
        for (int kind : NO_KINDS) {
            due.refuses(new ImpreciseRaise(8), kind, 5, 5, 5);
        }
        for (int kind = 0; kind <= 11; kind++) {
            due.add(new ImpreciseRaise(8), kind, 5, 5, 5);
        }
    }

    private static void wrongCode(Due due) {
        due.sentence("kind is K_RAISE and a is not in EXC_USER_MIN..EXC_USER_MAX");
        for (int code : NO_CODES) {
            due.refuses(new ImpreciseRaise(32), ImpreciseRaise.K_RAISE, code, 5, 5);
        }
        for (int code = 5; code <= 15; code++) {
            ImpreciseRaise x = new ImpreciseRaise(8);
            due.add(x, ImpreciseRaise.K_RAISE, code);
            due.raises(x, 0, code);
        }
        // No other kind is bound to the codes.
        for (int a : new int[] {0, 4, 16, 31}) {
            for (int kind = 0; kind <= 11; kind++) {
                if (kind != ImpreciseRaise.K_RAISE) {
                    due.add(new ImpreciseRaise(32), kind, a, a, a);
                }
            }
        }
    }

    private static void wrongReference(Due due) {
        due.sentence("Some reference argument that the kind uses is not in 0..CAP-1");
        for (int cap : new int[] {8, 9, 31, 32}) {
            for (int wrong : new int[] {Integer.MIN_VALUE, -cap, -1, cap, cap + 1, cap + 32, Integer.MAX_VALUE}) {
                for (int kind = 2; kind <= 11; kind++) {
                    for (int place = 0; place < Sample.REFERENCES[kind]; place++) {
                        int[] args = {0, cap - 1, 0};
                        args[place] = wrong;
                        due.refuses(new ImpreciseRaise(cap), kind, args[0], args[1], args[2]);
                    }
                }
            }
        }
    }

    /** Every refusal answers -1, so the order shows only in that several conditions refuse like one. */
    private static void severalAtOnce(Due due) {
        due.sentence("It checks these refusal conditions in order. The first condition that is true refuses the call");
        ImpreciseRaise full = Sample.full(8);
        ImpreciseRaise open = new ImpreciseRaise(8);
        for (int kind : NO_KINDS) {
            due.refuses(full, kind, -1, 8, -1);
            due.refuses(open, kind, -1, 8, -1);
        }
        for (int code : NO_CODES) {
            due.refuses(full, ImpreciseRaise.K_RAISE, code, -1, 8);
            due.refuses(open, ImpreciseRaise.K_RAISE, code, -1, 8);
        }
        for (int kind = 2; kind <= 11; kind++) {
            due.refuses(full, kind, -1, 8, -1);
            due.refuses(open, kind, -1, 8, -1);
        }
    }

    private static void changesNothing(Due due, String condition, Supplier<ImpreciseRaise> make, int[][] calls) {
        due.sentence("a refusal answers -1 and changes nothing: " + condition);
        for (int[] call : calls) {
            ImpreciseRaise x = make.get();
            due.refuses(x, call[0], call[1], call[2], call[3]);
            Twins.sameEverAfter(due, x, make.get());
        }
    }

    private static ImpreciseRaise fullAndUsed() {
        ImpreciseRaise x = Sample.full(9);
        x.setScript(5L);
        x.run(4);
        return x;
    }

    public static void main(String[] args) {
        Due due = new Due("Promise2RefusalTest");
        full(due);
        unknownKind(due);
        wrongCode(due);
        wrongReference(due);
        severalAtOnce(due);
        changesNothing(due, "count == CAP", Promise2RefusalTest::fullAndUsed, new int[][] {
            {0, 7, 0, 0}, {1, 5, 0, 0}, {2, 1, 1, 0}, {7, 0, 0, 0}, {9, 0, 0, 0}, {10, 0, 0, 0},
        });
        changesNothing(due, "kind", Sample::everyKind, new int[][] {{-1, 5, 5, 5}, {12, 5, 5, 5}});
        changesNothing(due, "code", Sample::everyKind, new int[][] {{1, 4, 0, 0}, {1, 16, 0, 0}});
        changesNothing(due, "reference", Sample::everyKind, new int[][] {
            {2, -1, 0, 0}, {6, 0, 16, 0}, {7, 0, 0, 16}, {8, 0, -1, 0}, {9, 16, 0, 0}, {11, -1, 0, 0},
        });
        due.end();
    }
}
