/** Promise 3: the script word is kept whole and changed by setScript alone. */
public final class Promise3ScriptTest {
    private static final long[] WORDS = {
        1L, -1L, Long.MIN_VALUE, Long.MAX_VALUE, 0x123456789ABCDEF0L, 1L << 32, 0xFFFFFFFFL, 0L,
    };

    public static void main(String[] args) {
        Due due = new Due("Promise3ScriptTest");
        ImpreciseRaise x = new ImpreciseRaise(8);
        due.is("script()", x.script(), 0);
        due.add(x, ImpreciseRaise.K_CONST, 2);
        due.add(x, ImpreciseRaise.K_ADD, 0, 0);
        due.add(x, ImpreciseRaise.K_RAISE, 9);
        due.add(x, ImpreciseRaise.K_ADD, 2, 1);
        due.gives(x, 1, ImpreciseRaise.R_INT, 4);
        for (long word : WORDS) {
            x.setScript(word);
            due.is("script()", x.script(), word);
            due.state(x, 1, ImpreciseRaise.R_INT, 4);
            due.is("nodeCount()", x.nodeCount(), 4);
            due.last(x, ImpreciseRaise.R_INT, 4, 0);
            x.resetThunks();
            due.raises(x, 3, 9);
            due.gives(x, 1, ImpreciseRaise.R_INT, 4);
            x.run(-1);
            x.addNode(-1, 0, 0, 0);
            due.is("script() after runs", x.script(), word);
        }
        due.end();
    }
}
