import java.util.ArrayList;
import java.util.List;
import java.util.Random;
import java.util.function.Predicate;

/** Runs of calls with fixed seeds, each call asked of the class and of the model. */
final class ModelTests {
    private static final int RUNS = 500;
    private static final int CALLS = 512;
    /** The counts at the end, and what the last step may ask beyond its own call. */
    private static final int LAST_CALLS = 12;
    private static final int[] WRONG = {-1, -2, 99, 1000, Integer.MIN_VALUE, Integer.MAX_VALUE, -13, 60, 250, 50};

    /** How often a run makes types, terms, facts, definitions and lines, and asks. */
    private static final int[][] WEIGHTS = {
        {2, 8, 10, 1, 2, 5},
        {1, 5, 6, 3, 8, 4},
        {1, 30, 2, 1, 1, 3},
        {10, 20, 6, 2, 2, 4},
        {2, 8, 4, 1, 20, 6},
        {1, 12, 8, 1, 4, 4},
        {1, 40, 3, 0, 3, 4},
    };

    /** How often each rule is picked: evenly, for many hypotheses, for changes of terms. */
    private static final int[][] OPS = {
        {1, 1, 1, 1, 1, 1, 1, 1, 1, 1, 1},
        {1, 1, 1, 1, 0, 6, 3, 6, 2, 1, 6},
        {2, 1, 1, 3, 3, 1, 1, 1, 4, 4, 4},
    };

    private final SequentKernel kernel = new SequentKernel();
    private final Model model = new Model();
    private final Random random;
    private final int[] weights;
    private final int[] ops;
    private final int errors;
    /** 0: all types and terms alike; 1: few types, so that they meet again; 2: few terms, too. */
    private final int simple;
    private final boolean manyHypotheses;
    private final List<String> log = new ArrayList<>();
    private boolean refused = false;

    private ModelTests(long seed) {
        random = new Random(seed);
        weights = WEIGHTS[random.nextInt(WEIGHTS.length)];
        int way = random.nextInt(OPS.length);
        ops = OPS[way];
        manyHypotheses = way == 1;
        errors = 15 + random.nextInt(200);
        simple = random.nextInt(3);
    }

    static void all() {
        int before = Check.failures();
        for (long seed = 0; seed < RUNS && Check.failures() == before; seed++) {
            new ModelTests(seed).run(seed);
        }
    }

    private void run(long seed) {
        int before = Check.failures();
        while (log.size() < CALLS - LAST_CALLS && Check.failures() == before) {
            step();
        }
        for (int which = -1; which <= 5; which++) {
            same("count(" + which + ")", kernel.count(which), model.count(which));
        }
        Check.yes("calls of one object", log.size() <= CALLS);
        if (Check.failures() != before) {
            System.out.println("seed " + seed + ":");
            log.forEach(System.out::println);
        }
    }

    private void same(String call, long got, long due) {
        log.add(call + " -> " + got);
        Check.is(call, got, due);
        refused = got < 0;
    }

    private void step() {
        call();
        if (refused && random.nextInt(3) == 0) {
            int which = random.nextInt(5);
            same("count(" + which + ")", kernel.count(which), model.count(which));
        }
    }

    private void call() {
        switch (picked(weights)) {
            case 0: typeCall(); break;
            case 1: termCall(); break;
            case 2: ruleCall(); break;
            case 3: defineCall(); break;
            case 4: traceCall(); break;
            default: askCall(); break;
        }
    }

    private int picked(int[] byWeight) {
        int all = 0;
        for (int w : byWeight) {
            all += w;
        }
        int pick = random.nextInt(all);
        int which = 0;
        while (pick >= byWeight[which]) {
            pick -= byWeight[which];
            which++;
        }
        return which;
    }

    // Arguments: mostly such as can be used, now and then a wrong one.

    private int maybeWrong(int right) {
        return random.nextInt(errors) == 0 ? WRONG[random.nextInt(WRONG.length)] : right;
    }

    private int below(int size) {
        return maybeWrong(size == 0 ? 0 : random.nextInt(size));
    }

    private int type() {
        int size = model.typeNumbers.size();
        return below(simple > 0 && random.nextInt(20) > 0 ? Math.min(size, 4) : size);
    }

    private int term() {
        int size = model.termNumbers.size();
        return below(simple == 2 && random.nextInt(3) > 0 ? Math.min(size, 8) : size);
    }

    private int fact() {
        int size = model.facts.size();
        if (manyHypotheses && random.nextInt(2) == 0) {
            return factWhere(f -> f.hypotheses().size() > 2);
        }
        if (size > 4 && random.nextInt(3) == 0) {
            return maybeWrong(size - 1 - random.nextInt(4));
        }
        return below(size);
    }

    private <T> int where(List<T> all, Predicate<T> wanted) {
        List<Integer> found = new ArrayList<>();
        for (int i = 0; i < all.size(); i++) {
            if (wanted.test(all.get(i))) {
                found.add(i);
            }
        }
        return found.isEmpty() ? below(all.size()) : maybeWrong(found.get(random.nextInt(found.size())));
    }

    private int termWhere(Predicate<Model.Term> wanted) {
        return where(model.termNumbers, wanted);
    }

    private int factWhere(Predicate<Model.Fact> wanted) {
        return where(model.facts, wanted);
    }

    private int variable() {
        return termWhere(t -> t instanceof Model.Var);
    }

    private int argumentFor(int f) {
        if (f >= 0 && f < model.termNumbers.size()
                && Model.type(model.termNumbers.get(f)) instanceof Model.Arrow arrow) {
            return termWhere(t -> Model.type(t).equals(arrow.from()));
        }
        return term();
    }

    private int ofTheTypeOf(int t) {
        if (t < 0 || t >= model.termNumbers.size()) {
            return term();
        }
        Model.Type wanted = Model.type(model.termNumbers.get(t));
        return termWhere(other -> Model.type(other).equals(wanted));
    }

    /** A fact that rule 1, 2 or 6 could take as its second one, after fact a. */
    private int partner(int op, int a) {
        if (a < 0 || a >= model.facts.size() || !Model.isEquation(model.facts.get(a))) {
            return fact();
        }
        Model.Fact first = model.facts.get(a);
        switch (op) {
            case 1:
                return factWhere(f -> Model.isEquation(f) && Model.left(f).equals(Model.right(first)));
            case 2:
                return factWhere(f -> Model.isEquation(f) && Model.type(Model.left(first)) instanceof Model.Arrow arrow
                        && arrow.from().equals(Model.type(Model.left(f))));
            default:
                return factWhere(f -> f.conclusion().equals(Model.left(first)));
        }
    }

    private int[] ruleArguments() {
        int op = maybeWrong(picked(ops));
        switch (op) {
            case 0: return new int[] {op, term(), random.nextInt(), random.nextInt()};
            case 1:
            case 6:
                int a = factWhere(Model::isEquation);
                return new int[] {op, a, partner(op, a), random.nextInt()};
            case 2:
                int f = factWhere(x -> Model.isEquation(x) && Model.type(Model.left(x)) instanceof Model.Arrow);
                return new int[] {op, f, partner(op, f), random.nextInt()};
            case 3: return new int[] {op, variable(), factWhere(Model::isEquation), random.nextInt()};
            case 4: return new int[] {op, termWhere(t -> t instanceof Model.App app && app.f() instanceof Model.Abs), 0, 0};
            case 5: return new int[] {op, termWhere(t -> Model.type(t).equals(Model.BOOL)), 0, 0};
            case 8:
                int v = variable();
                return new int[] {op, fact(), v, ofTheTypeOf(v)};
            case 9:
                return new int[] {op, fact(), where(model.typeNumbers, x -> x instanceof Model.TypeVar), type()};
            case 10: return new int[] {op, factWhere(Model::isEquation), fact(), 0};
            default: return new int[] {op, fact(), fact(), term()};
        }
    }

    /** The arguments of a line: what is a fact in them is often one that the trace itself makes. */
    private int[] lineArguments() {
        int[] args = ruleArguments();
        int size = model.lines.size();
        boolean firstIsFact = args[0] == 1 || args[0] == 2 || args[0] >= 6;
        boolean secondIsFact = args[0] == 10 || args[0] == 7 || args[0] == 6 || args[0] >= 1 && args[0] <= 3;
        if (firstIsFact && size > 0 && random.nextInt(2) == 0) {
            args[1] = maybeWrong(-1 - random.nextInt(size));
        }
        if (secondIsFact && size > 0 && random.nextInt(2) == 0) {
            args[2] = maybeWrong(-1 - random.nextInt(size + random.nextInt(30) / 29));
        }
        return args;
    }

    // Calls.

    private void typeCall() {
        if (random.nextInt(3) == 0) {
            int k = below(simple == 2 ? 1 : 4);
            same("typeVariable(" + k + ")", kernel.typeVariable(k), model.typeVariable(k));
        } else {
            int a = type();
            int b = type();
            same("arrow(" + a + ", " + b + ")", kernel.arrow(a, b), model.arrow(a, b));
        }
    }

    private void termCall() {
        switch (random.nextInt(simple == 0 ? 7 : 12)) {
            case 0:
            case 1:
                int k = below(simple == 2 ? 2 : 8);
                int type = type();
                same("variable(" + k + ", " + type + ")", kernel.variable(k, type), model.variable(k, type));
                break;
            case 2:
                int of = type();
                same("equality(" + of + ")", kernel.equality(of), model.equality(of));
                break;
            case 3:
            case 4:
                int v = variable();
                int t = term();
                same("lambda(" + v + ", " + t + ")", kernel.lambda(v, t), model.lambda(v, t));
                break;
            default:
                int f = termWhere(x -> Model.type(x) instanceof Model.Arrow);
                int x = argumentFor(f);
                same("apply(" + f + ", " + x + ")", kernel.apply(f, x), model.apply(f, x));
                break;
        }
    }

    private void ruleCall() {
        int[] args = ruleArguments();
        same("rule(" + args[0] + ", " + args[1] + ", " + args[2] + ", " + args[3] + ")",
                kernel.rule(args[0], args[1], args[2], args[3]), model.rule(args[0], args[1], args[2], args[3]));
    }

    private void defineCall() {
        if (random.nextInt(3) > 0) {
            int t = termWhere(x -> !(x instanceof Model.Var));
            same("define(" + t + ")", kernel.define(t), model.define(t));
        } else {
            int f = factWhere(x -> x.hypotheses().isEmpty());
            same("defineType(" + f + ")", kernel.defineType(f), model.defineType(f));
        }
    }

    private void traceCall() {
        int pick = random.nextInt(20);
        if (pick == 0) {
            same("clear()", kernel.clear(), model.clear());
        } else if (pick < 6) {
            int answer = kernel.replay();
            same("replay()", answer, model.replay());
            same("count(0)", kernel.count(0), model.count(0));
            same("count(1)", kernel.count(1), model.count(1));
            if (answer > 3 || random.nextInt(4) == 0) {
                same("clear()", kernel.clear(), model.clear());
            }
        } else {
            int[] args = lineArguments();
            same("line(" + args[0] + ", " + args[1] + ", " + args[2] + ", " + args[3] + ")",
                    kernel.line(args[0], args[1], args[2], args[3]), model.line(args[0], args[1], args[2], args[3]));
        }
    }

    private void askCall() {
        int t = term();
        int f = fact();
        switch (random.nextInt(8)) {
            case 0: same("typeOf(" + t + ")", kernel.typeOf(t), model.typeOf(t)); break;
            case 1: same("kind(" + t + ")", kernel.kind(t), model.kind(t)); break;
            case 2:
                int i = below(2);
                same("part(" + t + ", " + i + ")", kernel.part(t, i), model.part(t, i));
                break;
            case 3:
                int x = variable();
                same("free(" + x + ", " + t + ")", kernel.free(x, t) ? 1 : 0, model.free(x, t) ? 1 : 0);
                break;
            case 4:
            case 5:
                same("conclusion(" + f + ")", kernel.conclusion(f), model.conclusion(f));
                break;
            case 6: same("hypotheses(" + f + ")", kernel.hypotheses(f), model.hypotheses(f)); break;
            default:
                same("assumes(" + f + ", " + t + ")", kernel.assumes(f, t) ? 1 : 0, model.assumes(f, t) ? 1 : 0);
                break;
        }
    }
}
