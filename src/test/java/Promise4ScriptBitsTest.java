/** Promise 4: which nodes take which bits of the script, and where pos begins. */
public final class Promise4ScriptBitsTest {
    /** A ring of 31 binary nodes: to the left lies the next one, to the right a missing one. */
    private static ImpreciseRaise ring(Due due) {
        ImpreciseRaise x = new ImpreciseRaise(32);
        for (int i = 0; i < 31; i++) {
            due.add(x, Sample.BINARY[i % 5], i < 30 ? i + 1 : 0, 31);
        }
        return x;
    }

    /** More than these 31 bits no calls can show: 32 binary nodes alone only ever raise EXC_LOOP. */
    private static void bitsInTurn(Due due) {
        due.sentence("take the next script bit, which is (script >>> pos) & 1");
        ImpreciseRaise x = ring(due);
        for (int bit = 0; bit < 64; bit++) {
            x.setScript(1L << bit);
            for (int root = 0; root < 31; root++) {
                due.raises(x, root, bit < 31 ? ImpreciseRaise.EXC_MISSING : ImpreciseRaise.EXC_LOOP);
            }
        }
        x.setScript(0L);
        due.raises(x, 0, ImpreciseRaise.EXC_LOOP);
    }

    /** One node of a chain of 29 has a code of its own to its right, which tells that it took the bit that is set. */
    private static void eachBitOnce(Due due) {
        due.sentence("and then set pos = (pos + 1) & 63");
        for (int turn = 0; turn < 29; turn++) {
            ImpreciseRaise x = new ImpreciseRaise(32);
            for (int i = 0; i < 29; i++) {
                due.add(x, ImpreciseRaise.K_ADD, i + 1, i == turn ? 30 : 31);
            }
            due.add(x, ImpreciseRaise.K_RAISE, 5);
            due.add(x, ImpreciseRaise.K_RAISE, 6);
            for (int bit = 0; bit < 29; bit++) {
                x.setScript(1L << bit);
                due.raises(x, 0, bit == turn ? 6 : ImpreciseRaise.EXC_MISSING);
            }
        }
    }

    private static void startsAgain(Due due) {
        due.sentence("Each accepted run starts again at pos 0");
        ImpreciseRaise x = new ImpreciseRaise(16);
        due.add(x, ImpreciseRaise.K_RAISE, 5);
        due.add(x, ImpreciseRaise.K_RAISE, 6);
        due.add(x, ImpreciseRaise.K_CONST, 1);
        due.add(x, ImpreciseRaise.K_ADD, 0, 1);
        due.add(x, ImpreciseRaise.K_ADD, 2, 2);
        due.add(x, ImpreciseRaise.K_ADD, 4, 4);
        due.add(x, ImpreciseRaise.K_ADD, 5, 3);
        for (int before = 0; before < 7; before++) {
            x.resetThunks();
            x.setScript(1L);
            x.run(before);
            due.raises(x, 3, 6);
            x.run(-1);
            due.raises(x, 3, 6);
            x.setScript(~1L);
            due.raises(x, 3, 5);
            due.raises(x, 3, 5);
        }
    }

    private static void onlyBinary(Due due) {
        due.sentence("Only binary nodes take script bits");
        ImpreciseRaise x = new ImpreciseRaise(16);
        due.add(x, ImpreciseRaise.K_RAISE, 5);
        due.add(x, ImpreciseRaise.K_RAISE, 6);
        due.add(x, ImpreciseRaise.K_CONST, 1);
        due.add(x, ImpreciseRaise.K_ADD, 0, 1);
        due.add(x, ImpreciseRaise.K_SEQ, 2, 3);
        due.add(x, ImpreciseRaise.K_SEQ, 3, 2);
        due.add(x, ImpreciseRaise.K_IF, 2, 4, 0);
        due.add(x, ImpreciseRaise.K_IF, 3, 0, 0);
        due.add(x, ImpreciseRaise.K_PAIR, 6, 7);
        due.add(x, ImpreciseRaise.K_FST, 8);
        due.add(x, ImpreciseRaise.K_SND, 8);
        for (int root : new int[] {3, 4, 5, 6, 7, 9, 10}) {
            x.setScript(1L);
            due.raises(x, root, 6);
            x.setScript(~1L);
            due.raises(x, root, 5);
        }
    }

    private static void everyBinaryKind(Due due) {
        due.sentence("Only binary nodes take script bits: each of the five kinds takes one");
        for (int kind : Sample.BINARY) {
            ImpreciseRaise x = new ImpreciseRaise(8);
            due.add(x, ImpreciseRaise.K_RAISE, 5);
            due.add(x, ImpreciseRaise.K_RAISE, 6);
            due.add(x, ImpreciseRaise.K_ADD, 0, 1);
            due.add(x, kind, 2, 2);
            for (int script = 0; script < 4; script++) {
                x.setScript(script);
                due.raises(x, 3, (script & 2) == 0 ? 5 : 6);
            }
        }
    }

    private static void whenItBegins(Due due) {
        due.sentence("each one when it begins evaluation in step 5");
        ImpreciseRaise x = new ImpreciseRaise(8);
        due.add(x, ImpreciseRaise.K_RAISE, 5);
        due.add(x, ImpreciseRaise.K_RAISE, 6);
        due.add(x, ImpreciseRaise.K_CONST, 1);
        due.add(x, ImpreciseRaise.K_ADD, 2, 2);
        due.add(x, ImpreciseRaise.K_SUB, 0, 1);
        due.add(x, ImpreciseRaise.K_MUL, 3, 4);
        for (int script = 0; script < 8; script++) {
            x.resetThunks();
            x.setScript(script);
            // Left first: nodes 5, 3, 4 take bits 0, 1, 2. Right first: nodes 5, 4 take bits 0, 1.
            boolean rightFirst = (script & 1) == 1;
            int bit = rightFirst ? (script >> 1) & 1 : (script >> 2) & 1;
            due.raises(x, 5, bit == 0 ? 5 : 6);
        }
    }

    public static void main(String[] args) {
        Due due = new Due("Promise4ScriptBitsTest");
        bitsInTurn(due);
        eachBitOnce(due);
        startsAgain(due);
        onlyBinary(due);
        everyBinaryKind(due);
        whenItBegins(due);
        due.end();
    }
}
