/**
 * Collects the answers that are not as due, sentence by sentence of the document, prints them, and ends the test
 * with their verdict.
 */
final class Due {
    // The first wrong answers tell enough; the rest would only flood the output.
    private static final int PRINTED = 40;

    private final String test;
    private String sentence = "";
    private int sentences = 0;
    private int askedOfSentence = 0;
    private int asked = 0;
    private int wrong = 0;

    Due(String test) {
        this.test = test;
    }

    /** The answers asked from here on belong to these words of the document. */
    void sentence(String words) {
        endSentence();
        sentence = words;
        sentences++;
        askedOfSentence = 0;
    }

    // A sentence without an answer would pass whatever the program did.
    private void endSentence() {
        if (sentences > 0 && askedOfSentence == 0 && allRight()) {
            isWrong("nothing is asked");
        }
    }

    private void isWrong(String what) {
        wrong++;
        if (wrong <= PRINTED) {
            System.out.println(test + ": " + (sentence.isEmpty() ? "" : "\"" + sentence + "\": ") + what);
        }
    }

    void is(String call, long got, long want) {
        asked++;
        askedOfSentence++;
        if (got != want) {
            isWrong(call + " answered " + got + ", due is " + want);
        }
    }

    void isTrue(String claim, boolean holds) {
        is(claim, holds ? 1 : 0, 1);
    }

    /** What the test itself must have come to, or it tells nothing. A wrong answer ends it before that. */
    void reached(String what, boolean enough) {
        if (allRight()) {
            isTrue(what + " reached", enough);
        }
    }

    /** Adds a node that must be accepted, and answers its index. */
    int add(ImpreciseRaise x, int kind, int a, int b, int c) {
        int count = x.nodeCount();
        is("addNode(" + kind + ", " + a + ", " + b + ", " + c + ")", x.addNode(kind, a, b, c), count);
        return count;
    }

    int add(ImpreciseRaise x, int kind, int a, int b) {
        return add(x, kind, a, b, -1);
    }

    int add(ImpreciseRaise x, int kind, int a) {
        return add(x, kind, a, -1, -1);
    }

    /** A node that must be refused: the answer is -1, and no node has come. */
    void refuses(ImpreciseRaise x, int kind, int a, int b, int c) {
        int count = x.nodeCount();
        is("addNode(" + kind + ", " + a + ", " + b + ", " + c + ")", x.addNode(kind, a, b, c), -1);
        is("nodeCount() after a refusal", x.nodeCount(), count);
    }

    void denotes(ImpreciseRaise x, int i, int kind, int value) {
        is("denKind(" + i + ")", x.denKind(i), kind);
        is("denSet(" + i + ")", x.denSet(i), 0);
        is("denValue(" + i + ")", x.denValue(i), value);
    }

    void denotesSet(ImpreciseRaise x, int i, int set) {
        is("denKind(" + i + ")", x.denKind(i), ImpreciseRaise.R_EXC);
        is("denSet(" + i + ")", x.denSet(i), set);
        is("denValue(" + i + ")", x.denValue(i), 0);
    }

    void last(ImpreciseRaise x, int outcome, int value, int exception) {
        is("lastOutcome()", x.lastOutcome(), outcome);
        is("lastValue()", x.lastValue(), value);
        is("lastException()", x.lastException(), exception);
    }

    void gives(ImpreciseRaise x, int root, int kind, int value) {
        is("run(" + root + ")", x.run(root), kind);
        last(x, kind, value, 0);
    }

    void raises(ImpreciseRaise x, int root, int code) {
        is("run(" + root + ")", x.run(root), ImpreciseRaise.R_EXC);
        last(x, ImpreciseRaise.R_EXC, 0, code);
    }

    void state(ImpreciseRaise x, int i, int state, int value) {
        is("nodeState(" + i + ")", x.nodeState(i), state);
        is("nodeValue(" + i + ")", x.nodeValue(i), value);
    }

    void unevaluated(ImpreciseRaise x, int i) {
        state(x, i, ImpreciseRaise.ST_UNEVAL, 0);
    }

    /** Every per-node query gives its out-of-range answer. */
    void outOfRange(ImpreciseRaise x, int i) {
        is("nodeKind(" + i + ")", x.nodeKind(i), -1);
        state(x, i, ImpreciseRaise.R_NONE, 0);
        denotes(x, i, ImpreciseRaise.R_NONE, 0);
    }

    /** Both points of the agreement, read right after an accepted run(root). */
    void runAgrees(ImpreciseRaise x, int root, int answer) {
        int set = x.denSet(root);
        is("run(" + root + ") raised, where denSet(" + root + ") is " + set,
            answer == ImpreciseRaise.R_EXC ? 1 : 0, set != 0 ? 1 : 0);
        if (answer == ImpreciseRaise.R_EXC) {
            int code = x.lastException();
            isTrue("bit " + code + " of denSet(" + root + "), which is " + set, code > 0 && (set >>> code & 1) == 1);
        } else {
            denotes(x, root, answer, x.lastValue());
        }
    }

    /** Every node that holds a value holds the one that it denotes. */
    void statesAgree(ImpreciseRaise x) {
        for (int i = 0; i < x.nodeCount(); i++) {
            if (x.nodeState(i) != ImpreciseRaise.ST_UNEVAL) {
                is("nodeState(" + i + ") against denKind", x.nodeState(i), x.denKind(i));
                is("nodeValue(" + i + ") against denValue", x.nodeValue(i), x.denValue(i));
            }
        }
    }

    boolean allRight() {
        return wrong == 0;
    }

    void end() {
        endSentence();
        System.out.println(test + ": " + sentences + " sentences, " + asked + " answers, " + wrong + " not as due");
        if (wrong != 0 || asked == 0) {
            System.exit(1);
        }
    }
}
