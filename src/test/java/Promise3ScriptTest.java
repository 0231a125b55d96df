/** Promise 3: the script word is kept whole, is read by runs, and is changed by setScript alone. */
public final class Promise3ScriptTest {
    private static final long[] WORDS = {
        1L, -1L, Long.MIN_VALUE, Long.MAX_VALUE, 0x123456789ABCDEF0L, 1L << 32, 1L << 31, 0xFFFFFFFFL, 0L,
    };

    private static void acceptsEveryLong(Due due) {
        due.sentence("It is never refused, accepts every long");
        ImpreciseRaise x = new ImpreciseRaise(8);
        for (int bit = 0; bit < 64; bit++) {
            x.setScript(1L << bit);
            due.is("script()", x.script(), 1L << bit);
            x.setScript(~(1L << bit));
            due.is("script()", x.script(), ~(1L << bit));
        }
        ImpreciseRaise full = Sample.full(32);
        for (long word : WORDS) {
            full.setScript(word);
            due.is("script()", full.script(), word);
        }
    }

    private static void changesNothingElse(Due due) {
        due.sentence("and changes nothing else");
        for (long word : WORDS) {
            for (int root : new int[] {-1, 4, 7, 9, 12}) {
                ImpreciseRaise x = Sample.everyKind();
                ImpreciseRaise twin = Sample.everyKind();
                x.run(root);
                twin.run(root);
                x.setScript(word);
                Twins.same(due, x, twin, "script()");
                x.setScript(5L);
                Twins.sameEverAfter(due, x, twin);
            }
        }
    }

    private static void nowSet(Due due) {
        due.sentence("0 on a fresh object");
        due.is("script()", new ImpreciseRaise(8).script(), 0);
        due.sentence("otherwise the last value given to setScript");
        ImpreciseRaise x = new ImpreciseRaise(8);
        for (long word : WORDS) {
            x.setScript(~word);
            x.setScript(word);
            due.is("script()", x.script(), word);
            due.is("script() again", x.script(), word);
        }
        due.sentence("script() answers the script word now set: answering changes nothing");
        Twins.queriesChangeNothing(due, Sample::everyKind, "script");
    }

    private static void laterRuns(Due due) {
        due.sentence("sets the script word that later runs use");
        ImpreciseRaise x = new ImpreciseRaise(8);
        due.add(x, ImpreciseRaise.K_RAISE, 5);
        due.add(x, ImpreciseRaise.K_RAISE, 6);
        due.add(x, ImpreciseRaise.K_ADD, 0, 1);
        due.raises(x, 2, 5);
        x.setScript(1L);
        due.last(x, ImpreciseRaise.R_EXC, 0, 5);
        due.raises(x, 2, 6);
        due.raises(x, 2, 6);
        x.setScript(2L);
        due.last(x, ImpreciseRaise.R_EXC, 0, 6);
        due.raises(x, 2, 5);
    }

    private static void runsNeverChange(Due due) {
        due.sentence("Runs read the script word but never change it");
        for (long word : WORDS) {
            ImpreciseRaise x = Sample.full(32);
            x.setScript(word);
            due.gives(x, 0, ImpreciseRaise.R_INT, 32);
            due.is("script() after a value", x.script(), word);
            x.run(-1);
            x.run(32);
            due.is("script() after a refused run", x.script(), word);
            ImpreciseRaise y = Sample.everyKind();
            y.setScript(word);
            for (int root = 0; root < 13; root++) {
                y.run(root);
                due.is("script() after run(" + root + ")", y.script(), word);
            }
        }
    }

    public static void main(String[] args) {
        Due due = new Due("Promise3ScriptTest");
        acceptsEveryLong(due);
        changesNothingElse(due);
        nowSet(due);
        laterRuns(due);
        runsNeverChange(due);
        due.end();
    }
}
