import java.util.LinkedHashMap;
import java.util.Map;
import java.util.Set;
import java.util.function.Supplier;
import java.util.function.ToLongFunction;

/**
 * Compares two objects that were made in the same way, one of which took a call that must change nothing: the other
 * one tells what is due.
 */
final class Twins {
    private static final long[] SCRIPTS = {0L, -1L, 0x5555555555555555L, 0x3333333333333333L, 6L};
    private static final Map<String, ToLongFunction<ImpreciseRaise>> QUERIES = queries();

    private Twins() { }

    private static Map<String, ToLongFunction<ImpreciseRaise>> queries() {
        Map<String, ToLongFunction<ImpreciseRaise>> queries = new LinkedHashMap<>();
        queries.put("capacity()", ImpreciseRaise::capacity);
        queries.put("nodeCount()", ImpreciseRaise::nodeCount);
        queries.put("script()", ImpreciseRaise::script);
        queries.put("lastOutcome()", ImpreciseRaise::lastOutcome);
        queries.put("lastException()", ImpreciseRaise::lastException);
        queries.put("lastValue()", ImpreciseRaise::lastValue);
        putQueriesOf(queries, Integer.MIN_VALUE);
        for (int i = -1; i <= 32; i++) {
            putQueriesOf(queries, i);
        }
        putQueriesOf(queries, Integer.MAX_VALUE);
        return queries;
    }

    private static void putQueriesOf(Map<String, ToLongFunction<ImpreciseRaise>> queries, int i) {
        queries.put("nodeKind(" + i + ")", x -> x.nodeKind(i));
        queries.put("nodeState(" + i + ")", x -> x.nodeState(i));
        queries.put("nodeValue(" + i + ")", x -> x.nodeValue(i));
        queries.put("denKind(" + i + ")", x -> x.denKind(i));
        queries.put("denSet(" + i + ")", x -> x.denSet(i));
        queries.put("denValue(" + i + ")", x -> x.denValue(i));
    }

    /** Every query answers the same, but for the calls named last. */
    static void same(Due due, ImpreciseRaise x, ImpreciseRaise twin, String... but) {
        Set<String> skipped = Set.of(but);
        QUERIES.forEach((call, query) -> {
            if (!skipped.contains(call)) {
                due.is(call, query.applyAsLong(x), query.applyAsLong(twin));
            }
        });
    }

    private static void runEveryRoot(Due due, ImpreciseRaise x, ImpreciseRaise twin) {
        for (int root = 0; root < twin.nodeCount(); root++) {
            due.is("run(" + root + ")", x.run(root), twin.run(root));
            same(due, x, twin);
        }
    }

    /** Every query answers the same now and after more runs, resets and nodes. Uses both objects up. */
    static void sameEverAfter(Due due, ImpreciseRaise x, ImpreciseRaise twin) {
        same(due, x, twin);
        runEveryRoot(due, x, twin);
        for (long script : SCRIPTS) {
            x.resetThunks();
            twin.resetThunks();
            same(due, x, twin);
            x.setScript(script);
            twin.setScript(script);
            runEveryRoot(due, x, twin);
        }
        for (int next = twin.nodeCount(); next < twin.capacity(); next++) {
            due.add(twin, ImpreciseRaise.K_ADD, 0, next, 0);
            due.add(x, ImpreciseRaise.K_ADD, 0, next, 0);
        }
        same(due, x, twin);
        runEveryRoot(due, x, twin);
    }

    /** The named queries change nothing: after each, x does as a twin that was asked nothing. */
    static void queriesChangeNothing(Due due, Supplier<ImpreciseRaise> make, String... names) {
        Set<String> named = Set.of(names);
        QUERIES.forEach((call, query) -> {
            if (named.contains(call.substring(0, call.indexOf('(')))) {
                Supplier<ImpreciseRaise> asked = () -> {
                    ImpreciseRaise x = make.get();
                    query.applyAsLong(x);
                    return x;
                };
                sameOneByOne(due, call, asked, make);
                sameRunsUnasked(due, call, asked, make);
            }
        });
    }

    private static void sameOneByOne(
            Due due, String call, Supplier<ImpreciseRaise> asked, Supplier<ImpreciseRaise> make) {
        QUERIES.forEach((later, query) ->
            due.is(later + " after " + call, query.applyAsLong(asked.get()), query.applyAsLong(make.get())));
    }

    private static void sameRunsUnasked(
            Due due, String call, Supplier<ImpreciseRaise> asked, Supplier<ImpreciseRaise> make) {
        for (int root = 0; root < make.get().nodeCount(); root++) {
            ImpreciseRaise x = asked.get();
            ImpreciseRaise twin = make.get();
            x.resetThunks();
            twin.resetThunks();
            due.is("run(" + root + ") after " + call, x.run(root), twin.run(root));
            same(due, x, twin);
        }
    }
}
