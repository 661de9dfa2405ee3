import java.util.List;
import java.util.function.Function;

/** For each rule arguments that it takes, with what sort each of them is of. */
record Sample(int op, String sorts, Function<SequentKernel, int[]> prepare) {
    /** What stands in sorts: a fact, a term, a type, and what is not looked at. */
    static final char FACT = 'F';
    static final char TERM = 'T';
    static final char TYPE = 'Y';
    static final char UNUSED = '-';

    /** Each makes as much that is new as its rule can, so that it meets the limits. */
    static final List<Sample> OF_ALL_RULES = List.of(
            new Sample(0, "T--", k -> args(k.variable(0, 1), 0, 0)),
            new Sample(1, "FF-", k -> args(assumed(k, equation(k, p(k), q(k))), assumed(k, equation(k, q(k), r(k))), 0)),
            new Sample(2, "FF-", Sample::forCongruence),
            new Sample(3, "TF-", k -> args(p(k), k.rule(0, k.variable(0, 1), 0, 0), 0)),
            new Sample(4, "T--", Sample::forOpening),
            new Sample(5, "T--", k -> args(p(k), 0, 0)),
            new Sample(6, "FF-", k -> args(assumed(k, equation(k, p(k), q(k))), assumed(k, p(k)), 0)),
            new Sample(7, "FF-", k -> args(assumed(k, p(k)), assumed(k, q(k)), 0)),
            new Sample(8, "FTT", k -> args(assumed(k, g(k, p(k))), p(k), g(k, q(k)))),
            new Sample(9, "FYY", Sample::forTypes),
            new Sample(10, "FF-", k -> args(assumed(k, equation(k, p(k), g(k, q(k)))), assumed(k, g(k, p(k))), 0)));

    private static int[] args(int a, int b, int c) {
        return new int[] {a, b, c};
    }

    static int p(SequentKernel k) {
        return k.variable(0, 0);
    }

    static int q(SequentKernel k) {
        return k.variable(1, 0);
    }

    static int r(SequentKernel k) {
        return k.variable(2, 0);
    }

    /** The application of a variable from BOOL to BOOL. */
    static int g(SequentKernel k, int t) {
        return k.apply(k.variable(3, k.arrow(0, 0)), t);
    }

    static int assumed(SequentKernel k, int t) {
        return k.rule(5, t, 0, 0);
    }

    static int equation(SequentKernel k, int left, int right) {
        return k.apply(k.apply(k.equality(k.typeOf(left)), left), right);
    }

    /** f = f' and p = q, f from BOOL to IND: the equality of IND is not there yet. */
    private static int[] forCongruence(SequentKernel k) {
        int boolToInd = k.arrow(0, 1);
        int functions = assumed(k, equation(k, k.variable(0, boolToInd), k.variable(1, boolToInd)));
        return args(functions, assumed(k, equation(k, p(k), q(k))), 0);
    }

    private static int[] forOpening(SequentKernel k) {
        int h = k.variable(0, k.arrow(0, 1));
        return args(k.apply(k.lambda(p(k), k.apply(h, p(k))), q(k)), 0, 0);
    }

    private static int[] forTypes(SequentKernel k) {
        int a = k.typeVariable(0);
        int claim = k.apply(k.variable(0, k.arrow(a, 0)), k.variable(0, a));
        return args(assumed(k, claim), a, k.arrow(1, 1));
    }

    /** Whether the rule looks at argument i. */
    boolean uses(int i) {
        return sorts.charAt(i) != UNUSED;
    }

    int make(SequentKernel k, int[] args) {
        return k.rule(op, args[0], args[1], args[2]);
    }
}
