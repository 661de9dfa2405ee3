import java.util.ArrayList;
import java.util.List;
import java.util.function.Function;
import java.util.function.ToIntBiFunction;

/**
 * "A call that would make .. more than 250 terms in the store or 50 types in the type store, is
 * refused", and "at most 60" facts, for every call that makes something: with just as much room as
 * it needs it is answered and the store is full, with one place less it is refused, and a call that
 * needs no room is answered in a full store.
 */
final class EdgeTests {
    private static final int TERMS = 0;
    private static final int TYPES = 1;
    private static final int FACTS = 2;
    private static final int[] LIMIT = {250, 50, 60};

    /** What has to be there, the call at the edge, and what it answers if it is refused. */
    private record Edge(String name, Function<SequentKernel, int[]> prepare,
            ToIntBiFunction<SequentKernel, int[]> call, int refusal) {
        int[] ready(SequentKernel k) {
            k.variable(7, 0);
            return prepare.apply(k);
        }
    }

    private EdgeTests() {
    }

    static void all() {
        for (Edge edge : edges()) {
            for (int store = TERMS; store <= FACTS; store++) {
                atTheEdge(edge, store);
            }
        }
        needsAreAsSaid();
    }

    private static List<Edge> edges() {
        List<Edge> all = new ArrayList<>();
        for (Sample sample : Sample.OF_ALL_RULES) {
            all.add(new Edge("rule " + sample.op(), sample.prepare(), sample::make, -1));
            all.add(new Edge("a line of rule " + sample.op(), k -> withLine(k, sample), (k, m) -> k.replay(), -1));
        }
        all.add(new Edge("typeVariable", k -> null, (k, m) -> k.typeVariable(0), -1));
        all.add(new Edge("arrow", k -> null, (k, m) -> k.arrow(0, 1), -1));
        all.add(new Edge("variable", k -> null, (k, m) -> k.variable(0, 0), -1));
        all.add(new Edge("equality", k -> null, (k, m) -> k.equality(1), -1));
        all.add(new Edge("apply", k -> made(k.variable(0, k.arrow(0, 0)), Sample.p(k)),
                (k, m) -> k.apply(m[0], m[1]), -1));
        all.add(new Edge("lambda", k -> made(Sample.p(k)), (k, m) -> k.lambda(m[0], m[0]), -1));
        all.add(new Edge("define", k -> made(identity(k)), (k, m) -> k.define(m[0]), -1));
        all.add(new Edge("defineType", k -> made(k.rule(0, identity(k), 0, 0)), (k, m) -> k.defineType(m[0]), -1));
        all.add(new Edge("replay", EdgeTests::threeLines, (k, m) -> k.replay(), -3));
        all.add(new Edge("typeOf", k -> made(identity(k)), (k, m) -> k.typeOf(m[0]), -1));
        all.add(new Edge("conclusion", k -> made(k.rule(0, Sample.p(k), 0, 0)), (k, m) -> k.conclusion(m[0]), -1));
        all.add(new Edge("part", k -> made(k.conclusion(k.rule(0, Sample.p(k), 0, 0))),
                (k, m) -> k.part(m[0], 0), -1));
        all.add(new Edge("kind", k -> made(identity(k)), (k, m) -> k.kind(m[0]), -1));
        all.add(new Edge("free", k -> made(Sample.p(k)), (k, m) -> k.free(m[0], m[0]) ? 1 : -1, -1));
        all.add(new Edge("assumes", k -> made(k.rule(5, Sample.p(k), 0, 0), Sample.p(k)),
                (k, m) -> k.assumes(m[0], m[1]) ? 1 : -1, -1));
        all.add(new Edge("hypotheses", k -> made(k.rule(5, Sample.p(k), 0, 0)), (k, m) -> k.hypotheses(m[0]), -1));
        all.add(new Edge("clear", k -> null, (k, m) -> k.clear(), -1));
        all.add(new Edge("line", k -> null, (k, m) -> k.line(0, 0, 0, 0), -1));
        return all;
    }

    private static int[] made(int... numbers) {
        return numbers;
    }

    private static int identity(SequentKernel k) {
        int x = k.variable(0, 1);
        return k.lambda(x, x);
    }

    private static int[] withLine(SequentKernel k, Sample sample) {
        int[] args = sample.prepare().apply(k);
        k.line(sample.op(), args[0], args[1], args[2]);
        return args;
    }

    /** The last line alone makes terms and types, so it is the one that every limit refuses. */
    private static int[] threeLines(SequentKernel k) {
        k.line(5, Sample.p(k), 0, 0);
        k.line(5, Sample.q(k), 0, 0);
        k.line(0, k.variable(0, 1), 0, 0);
        return null;
    }

    private static int need(Edge edge, int store) {
        SequentKernel k = new SequentKernel();
        int[] made = edge.ready(k);
        int before = k.count(store);
        Check.yes(edge.name() + " is answered", edge.call().applyAsInt(k, made) >= 0);
        return k.count(store) - before;
    }

    private static void atTheEdge(Edge edge, int store) {
        String what = edge.name() + " at the edge of count(" + store + ")";
        int need = need(edge, store);
        SequentKernel k = new SequentKernel();
        int[] made = edge.ready(k);
        fill(k, store, LIMIT[store] - need);
        Check.yes(what + " has room", edge.call().applyAsInt(k, made) >= 0);
        Check.is(what + " fills it", k.count(store), LIMIT[store]);
        if (need > 0) {
            Twin twin = new Twin();
            int[][] ready = new int[1][];
            twin.both(both -> {
                ready[0] = edge.ready(both);
                fill(both, store, LIMIT[store] - need + 1);
                return both.count(store);
            });
            twin.refused(what, edge.refusal(), tried -> edge.call().applyAsInt(tried, ready[0]));
            twin.alike(what);
        }
    }

    private static void fill(SequentKernel k, int store, int wanted) {
        switch (store) {
            case TERMS: fillTerms(k, wanted); break;
            case TYPES: fillTypes(k, wanted); break;
            default: fillFacts(k, wanted); break;
        }
        Check.is("filled", k.count(store), wanted);
    }

    /** Types of type variable 3 alone, which no edge uses, so that nothing that an edge needs is made here. */
    private static int fillingType(SequentKernel k, int[] types, int i) {
        if (types[i] == 0) {
            types[i] = i == 0 ? k.typeVariable(3) : k.arrow(types[(i - 1) / 7], types[(i - 1) % 7 % i]);
            Check.yes("a type to fill with", types[i] > 0);
        }
        return types[i];
    }

    private static void fillTypes(SequentKernel k, int wanted) {
        int[] types = new int[50];
        int missing = wanted - k.count(1);
        for (int i = 0; i < missing; i++) {
            fillingType(k, types, i);
        }
    }

    private static void fillTerms(SequentKernel k, int wanted) {
        int[] types = new int[50];
        int missing = wanted - k.count(0);
        for (int i = 0; i < missing; i++) {
            k.variable(i % 8, fillingType(k, types, i / 8));
        }
    }

    private static void fillFacts(SequentKernel k, int wanted) {
        int missing = wanted - k.count(2);
        for (int i = 0; i < missing; i++) {
            k.rule(5, 0, 0, 0);
        }
    }

    private static void needs(String name, int terms, int types, int facts) {
        for (Edge edge : edges()) {
            if (edge.name().equals(name)) {
                Check.is(name + " makes terms", need(edge, TERMS), terms);
                Check.is(name + " makes types", need(edge, TYPES), types);
                Check.is(name + " makes facts", need(edge, FACTS), facts);
            }
        }
    }

    /** What the stores hold after a call, counted by hand from the document. */
    private static void needsAreAsSaid() {
        needs("typeVariable", 0, 1, 0);
        needs("arrow", 0, 1, 0);
        needs("variable", 1, 0, 0);
        needs("equality", 1, 2, 0);
        needs("apply", 1, 0, 0);
        needs("lambda", 2, 1, 0);
        needs("rule 0", 3, 2, 1);
        needs("rule 1", 1, 0, 1);
        needs("rule 2", 5, 2, 1);
        needs("rule 3", 4, 3, 1);
        needs("rule 4", 4, 2, 1);
        needs("rule 5", 0, 0, 1);
        needs("rule 6", 0, 0, 1);
        needs("rule 7", 3, 2, 1);
        needs("rule 8", 1, 0, 1);
        needs("rule 9", 3, 1, 1);
        needs("rule 10", 1, 0, 1);
        needs("define", 4, 2, 1);
        needs("defineType", 17, 7, 2);
        needs("replay", 3, 2, 3);
        for (String name : new String[] {"typeOf", "conclusion", "part", "kind", "free", "assumes", "hypotheses",
            "clear", "line"}) {
            needs(name, 0, 0, 0);
        }
    }
}
