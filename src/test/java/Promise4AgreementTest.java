import java.util.ArrayList;
import java.util.List;

/** Promises 4 and 8: the machine agrees with the denotation, shown on every graph of two nodes over a few leaves. */
public final class Promise4AgreementTest {
    /** Every node over the references 0, 1 and 2, of which 2 is missing at first. */
    private static List<int[]> nodes() {
        List<int[]> nodes = new ArrayList<>();
        for (int value : new int[] {0, 1, -1, Integer.MIN_VALUE}) {
            nodes.add(new int[] {ImpreciseRaise.K_CONST, value, 0, 0});
        }
        nodes.add(new int[] {ImpreciseRaise.K_RAISE, 5, 0, 0});
        nodes.add(new int[] {ImpreciseRaise.K_RAISE, 15, 0, 0});
        for (int kind = ImpreciseRaise.K_ADD; kind <= ImpreciseRaise.K_SND; kind++) {
            int used = Sample.REFERENCES[kind];
            for (int a = 0; a < 3; a++) {
                for (int b = 0; b < (used > 1 ? 3 : 1); b++) {
                    for (int c = 0; c < (used > 2 ? 3 : 1); c++) {
                        nodes.add(new int[] {kind, a, b, c});
                    }
                }
            }
        }
        return nodes;
    }

    private final Due due = new Due("Promise4AgreementTest");

    private void runsAgree(ImpreciseRaise x) {
        for (long script = 0; script < 4; script++) {
            x.setScript(script);
            for (int root = 0; root < x.nodeCount(); root++) {
                due.runAgrees(x, root, x.run(root));
                due.statesAgree(x);
            }
            if (script == 1) {
                x.resetThunks();
            }
        }
    }

    private void everyGraph() {
        due.sentence("Agreement with the denotation holds after every sequence of calls");
        List<int[]> nodes = nodes();
        int[][] thirds = {{ImpreciseRaise.K_CONST, 1, 0, 0}, {ImpreciseRaise.K_PAIR, 0, 1, 0}};
        for (int[] first : nodes) {
            for (int[] second : nodes) {
                for (int[] third : thirds) {
                    ImpreciseRaise x = new ImpreciseRaise(8);
                    x.addNode(first[0], first[1], first[2], first[3]);
                    runsAgree(x);
                    x.addNode(second[0], second[1], second[2], second[3]);
                    runsAgree(x);
                    x.addNode(third[0], third[1], third[2], third[3]);
                    due.statesAgree(x);
                    runsAgree(x);
                }
            }
        }
    }

    private void noWayOutside() {
        due.sentence("No script, no earlier interrupted run and no resetThunks can make the machine give an answer "
            + "outside the denotation");
        for (long script = 0; script < 64; script++) {
            for (int reset = 0; reset < 2; reset++) {
                ImpreciseRaise x = Sample.everyKind();
                x.setScript(script);
                for (int root = 12; root >= 0; root--) {
                    due.runAgrees(x, root, x.run(root));
                    if (reset == 1) {
                        x.resetThunks();
                    }
                }
                due.add(x, ImpreciseRaise.K_RAISE, 5);
                due.add(x, ImpreciseRaise.K_CONST, 2);
                due.add(x, ImpreciseRaise.K_ADD, 13, 12);
                for (int root = 15; root >= 0; root--) {
                    due.runAgrees(x, root, x.run(root));
                    due.statesAgree(x);
                }
            }
        }
    }

    public static void main(String[] args) {
        Promise4AgreementTest test = new Promise4AgreementTest();
        test.everyGraph();
        test.noWayOutside();
        test.due.end();
    }
}
