/** The rules 0 to 10: what each makes, and what it refuses. */
final class RuleTests {
    private final SequentKernel k = new SequentKernel();
    private final int bool = 0;
    private final int boolToBool = k.arrow(0, 0);
    private final int x = k.variable(0, 0);
    private final int y = k.variable(1, 0);
    private final int z = k.variable(2, 0);
    private final int f = k.variable(0, boolToBool);
    private final int g = k.variable(1, boolToBool);
    private final int ind = k.variable(0, 1);
    private final int equality = k.equality(0);

    private RuleTests() {
    }

    static void all() {
        new RuleTests().reflexivity();
        new RuleTests().transitivity();
        new RuleTests().congruence();
        new RuleTests().underAbstraction();
        new RuleTests().opening();
        new RuleTests().openingUnderAbstractions();
        new RuleTests().assumption();
        new RuleTests().equalTruth();
        new RuleTests().equivalence();
        new RuleTests().instance();
        new RuleTests().typeInstance();
        new RuleTests().typeInstanceByBool();
        new RuleTests().typeInstanceRefusals();
        new RuleTests().rewriting();
        new RuleTests().rewritingIsOutermostFirst();
    }

    private int equation(int left, int right) {
        return k.apply(k.apply(k.equality(k.typeOf(left)), left), right);
    }

    private int assumed(int t) {
        return k.rule(5, t, 0, 0);
    }

    private void is(String what, int fact, int hypotheses, int conclusion) {
        Check.yes(what + " is made", fact >= 0);
        Check.is(what + ": hypotheses", k.hypotheses(fact), hypotheses);
        Check.is(what + ": conclusion", k.conclusion(fact), conclusion);
    }

    private void refused(String what, int op, int a, int b, int c) {
        int terms = k.count(0);
        int types = k.count(1);
        int facts = k.count(2);
        Check.is(what, k.rule(op, a, b, c), -1);
        Check.is(what + ": terms", k.count(0), terms);
        Check.is(what + ": types", k.count(1), types);
        Check.is(what + ": facts", k.count(2), facts);
    }

    private void reflexivity() {
        is("x = x", k.rule(0, x, 0, 0), 0, equation(x, x));
        is("f = f", k.rule(0, f, 0, 0), 0, equation(f, f));
        refused("no term", 0, 10000, 0, 0);
    }

    private void transitivity() {
        int xy = assumed(equation(x, y));
        int yz = assumed(equation(y, z));
        int plain = assumed(x);
        int made = k.rule(1, xy, yz, 0);
        is("x = z", made, 2, equation(x, z));
        Check.yes("with x = y", k.assumes(made, equation(x, y)));
        Check.yes("and y = z", k.assumes(made, equation(y, z)));
        is("the same hypothesis counts once", k.rule(1, xy, k.rule(1, yz, k.rule(0, z, 0, 0), 0), 0), 2, equation(x, z));
        refused("the middles differ", 1, yz, xy, 0);
        refused("first is no equation", 1, plain, xy, 0);
        refused("second is no equation", 1, xy, plain, 0);
        refused("no first fact", 1, 50, xy, 0);
        refused("no second fact", 1, xy, 50, 0);
    }

    private void congruence() {
        int fg = assumed(equation(f, g));
        int xy = assumed(equation(x, y));
        int ofInd = k.rule(0, ind, 0, 0);
        is("f x = g y", k.rule(2, fg, xy, 0), 2, equation(k.apply(f, x), k.apply(g, y)));
        refused("x is of another type", 2, fg, ofInd, 0);
        refused("no arrow", 2, xy, xy, 0);
        refused("no equation", 2, fg, assumed(x), 0);
        refused("no equation first", 2, assumed(x), xy, 0);
        refused("no fact", 2, fg, 50, 0);
    }

    private void underAbstraction() {
        int same = k.rule(0, k.apply(f, x), 0, 0);
        int overX = k.lambda(x, k.apply(f, x));
        is("\\x. f x", k.rule(3, x, same, 0), 0, equation(overX, overX));
        int constant = k.lambda(z, k.apply(f, x));
        is("z stands nowhere", k.rule(3, z, same, 0), 0, equation(constant, constant));
        int xy = assumed(equation(x, y));
        refused("x is free in a hypothesis", 3, x, xy, 0);
        refused("y is free in a hypothesis", 3, y, xy, 0);
        is("z is not", k.rule(3, z, xy, 0), 1, equation(k.lambda(z, x), k.lambda(z, y)));
        int closed = assumed(equation(k.lambda(x, x), k.lambda(x, y)));
        int overBound = k.rule(3, x, closed, 0);
        is("x is bound in the hypothesis", overBound, 1,
                equation(k.lambda(x, k.lambda(x, x)), k.lambda(x, k.lambda(x, y))));
        refused("no variable", 3, k.apply(f, x), same, 0);
        refused("an equality", 3, equality, same, 0);
        refused("no equation", 3, z, assumed(x), 0);
        refused("no term", 3, -1, same, 0);
        refused("no fact", 3, x, 55, 0);
    }

    private void opening() {
        int body = k.apply(f, x);
        int redex = k.apply(k.lambda(x, body), y);
        is("(\\x. f x) y", k.rule(4, redex, 0, 0), 0, equation(redex, k.apply(f, y)));
        int constant = k.apply(k.lambda(x, z), y);
        is("(\\x. z) y", k.rule(4, constant, 0, 0), 0, equation(constant, z));
        int identity = k.lambda(f, f);
        int onFunction = k.apply(identity, k.lambda(x, x));
        is("(\\f. f) (\\x. x)", k.rule(4, onFunction, 0, 0), 0, equation(onFunction, k.lambda(x, x)));
        refused("an application of a variable", 4, body, 0, 0);
        refused("an abstraction alone", 4, identity, 0, 0);
        refused("the redex is not on top", 4, k.apply(f, redex), 0, 0);
        refused("a variable", 4, x, 0, 0);
        refused("no term", 4, 9999, 0, 0);
    }

    private void openingUnderAbstractions() {
        int inner = equation(x, y);
        int redex = k.apply(k.lambda(x, k.lambda(y, inner)), y);
        is("(\\x y. x = y) y takes nothing in", k.rule(4, redex, 0, 0), 0,
                equation(redex, k.lambda(z, equation(y, z))));
        int twice = k.lambda(x, equation(x, k.apply(k.lambda(x, x), x)));
        int onZ = k.apply(twice, z);
        is("at two depths", k.rule(4, onZ, 0, 0), 0, equation(onZ, equation(z, k.apply(k.lambda(y, y), z))));
        int deep = k.apply(k.lambda(x, k.lambda(y, k.lambda(z, equation(x, equation(y, z))))), k.apply(f, z));
        is("three deep", k.rule(4, deep, 0, 0), 0,
                equation(deep, k.lambda(x, k.lambda(y, equation(k.apply(f, z), equation(x, y))))));
    }

    private void assumption() {
        int made = assumed(x);
        is("x", made, 1, x);
        Check.yes("x is assumed", k.assumes(made, x));
        is("an equation", assumed(equation(ind, ind)), 1, equation(ind, ind));
        refused("not of BOOL", 5, ind, 0, 0);
        refused("a function", 5, f, 0, 0);
        refused("no term", 5, -1, 0, 0);
    }

    private void equalTruth() {
        int xy = assumed(equation(x, y));
        int made = k.rule(6, xy, assumed(x), 0);
        is("y", made, 2, y);
        Check.yes("under x", k.assumes(made, x));
        refused("y is not the left side", 6, xy, assumed(y), 0);
        refused("no equation", 6, assumed(x), assumed(x), 0);
        refused("no fact", 6, xy, 58, 0);
        refused("no fact first", 6, 58, xy, 0);
    }

    private void equivalence() {
        int ofX = assumed(x);
        int ofY = assumed(y);
        is("x and y", k.rule(7, ofX, ofY, 0), 2, equation(x, y));
        is("x and x", k.rule(7, ofX, ofX, 0), 0, equation(x, x));
        int fromX = k.rule(6, assumed(equation(x, y)), ofX, 0);
        int fromY = k.rule(6, assumed(equation(y, x)), ofY, 0);
        int made = k.rule(7, fromY, fromX, 0);
        is("each from the other", made, 2, equation(x, y));
        Check.no("without x", k.assumes(made, x));
        Check.no("without y", k.assumes(made, y));
        Check.yes("with x = y", k.assumes(made, equation(x, y)));
        int keeps = k.rule(7, fromX, fromX, 0);
        is("only the other's conclusion goes", keeps, 2, equation(y, y));
        int both = k.rule(7, fromX, ofX, 0);
        is("x goes from the first, not from the second", both, 2, equation(y, x));
        Check.yes("so x stays", k.assumes(both, x));
        refused("no fact", 7, ofX, 57, 0);
        refused("no fact first", 7, 57, ofX, 0);
    }

    private void instance() {
        int fx = k.apply(f, x);
        int base = assumed(equation(fx, y));
        int made = k.rule(8, base, x, k.apply(g, x));
        int wanted = equation(k.apply(f, k.apply(g, x)), y);
        is("x becomes g x, once", made, 1, wanted);
        Check.yes("in the hypothesis, too", k.assumes(made, wanted));
        is("z stands nowhere", k.rule(8, base, z, y), 1, equation(fx, y));
        int two = k.rule(7, assumed(x), assumed(y), 0);
        int merged = k.rule(8, two, x, y);
        is("two hypotheses become one", merged, 1, equation(y, y));
        int under = k.rule(0, k.lambda(y, equation(x, y)), 0, 0);
        int open = k.lambda(z, equation(y, z));
        is("nothing is taken in by an abstraction", k.rule(8, under, x, y), 0, equation(open, open));
        refused("another type", 8, base, x, ind);
        refused("another type, where z stands nowhere", 8, base, z, ind);
        refused("no variable", 8, base, fx, x);
        refused("no term", 8, base, x, 9999);
        refused("no variable at all", 8, base, -1, x);
        refused("no fact", 8, 59, x, y);
        is("a function variable", k.rule(8, base, f, k.lambda(x, x)), 1,
                equation(k.apply(k.lambda(x, x), x), y));
    }

    private void typeInstance() {
        int a = k.typeVariable(0);
        int b = k.typeVariable(1);
        int ofA = k.variable(0, a);
        int ofB = k.variable(0, b);
        int h = k.variable(3, k.arrow(a, k.arrow(b, bool)));
        int claim = k.apply(k.apply(h, ofA), ofB);
        int base = assumed(equation(k.lambda(ofA, claim), k.lambda(ofA, x)));
        int h2 = k.variable(3, k.arrow(1, k.arrow(b, bool)));
        int claim2 = k.apply(k.apply(h2, ind), ofB);
        int made = k.rule(9, base, a, 1);
        int wanted = equation(k.lambda(ind, claim2), k.lambda(ind, x));
        is("a becomes IND", made, 1, wanted);
        Check.yes("in the hypothesis, too", k.assumes(made, wanted));
        int same = k.rule(9, k.rule(0, claim, 0, 0), a, b);
        int h3 = k.variable(3, k.arrow(b, k.arrow(b, bool)));
        int claim3 = k.apply(k.apply(h3, ofB), ofB);
        is("two variables become one", same, 0, equation(claim3, claim3));
        int nested = k.arrow(a, a);
        int wide = k.rule(9, k.rule(0, ofA, 0, 0), a, nested);
        int ofNested = k.variable(0, nested);
        is("a becomes (a to a), once", wide, 0, equation(ofNested, ofNested));
        is("no a in it", k.rule(9, assumed(x), a, 1), 1, x);
    }

    /** BOOL has the least number that a type has. */
    private void typeInstanceByBool() {
        int a = k.typeVariable(0);
        int ofA = k.variable(0, a);
        is("a becomes BOOL", k.rule(9, k.rule(0, ofA, 0, 0), a, 0), 0, equation(x, x));
        int toInd = k.variable(5, k.arrow(a, 1));
        int toInd2 = k.variable(5, k.arrow(0, 1));
        is("in the first part of an arrow", k.rule(9, k.rule(0, toInd, 0, 0), a, 0), 0, equation(toInd2, toInd2));
        int fromInd = k.variable(5, k.arrow(1, a));
        int fromInd2 = k.variable(5, k.arrow(1, 0));
        is("in the second", k.rule(9, k.rule(0, fromInd, 0, 0), a, 0), 0, equation(fromInd2, fromInd2));
        int identity = k.lambda(x, x);
        is("in an abstraction", k.rule(9, k.rule(0, k.lambda(ofA, ofA), 0, 0), a, 0), 0, equation(identity, identity));
        is("a becomes a", k.rule(9, k.rule(0, ofA, 0, 0), a, a), 0, equation(ofA, ofA));
    }

    private void typeInstanceRefusals() {
        int a = k.typeVariable(0);
        int ofA = k.variable(0, a);
        int base = k.rule(0, ofA, 0, 0);
        refused("BOOL is no type variable", 9, base, 0, 1);
        refused("an arrow is none", 9, base, boolToBool, 1);
        refused("no type", 9, base, 77, 1);
        refused("no type to put in", 9, base, a, 77);
        refused("no fact", 9, 7, a, 1);
    }

    private void rewriting() {
        int fx = k.apply(f, x);
        int rule = assumed(equation(fx, y));
        int inside = k.lambda(z, equation(fx, z));
        int target = k.rule(7, assumed(equation(inside, inside)), assumed(x), 0);
        int after = k.lambda(z, equation(y, z));
        int made = k.rule(10, rule, target, 0);
        is("in each place, under abstractions, too", made, 3, equation(equation(after, after), x));
        Check.yes("hypotheses stay", k.assumes(made, equation(inside, inside)));
        Check.yes("those of the equation come along", k.assumes(made, equation(fx, y)));
        is("the whole conclusion", k.rule(10, assumed(equation(x, z)), assumed(x), 0), 2, z);
        is("l stands nowhere", k.rule(10, rule, assumed(z), 0), 2, z);
        int notFree = assumed(equation(k.lambda(x, fx), f));
        is("a bound one is not l", k.rule(10, rule, notFree, 0), 2, equation(k.lambda(x, fx), f));
        refused("no equation", 10, assumed(x), target, 0);
        refused("no fact", 10, rule, 59, 0);
        refused("no fact first", 10, 59, rule, 0);
    }

    private void rewritingIsOutermostFirst() {
        int fx = k.apply(f, x);
        int ffx = k.apply(f, fx);
        int up = assumed(equation(x, fx));
        is("nothing is replaced in what is put in", k.rule(10, up, assumed(x), 0), 2, fx);
        is("one step in each place", k.rule(10, up, assumed(equation(x, fx)), 0), 1, equation(fx, ffx));
        int growing = k.variable(5, k.arrow(boolToBool, boolToBool));
        int ffl = k.apply(k.apply(growing, f), x);
        int rule = assumed(equation(fx, x));
        is("f (f x) holds f x once, inside", k.rule(10, rule, assumed(ffx), 0), 2, fx);
        is("elsewhere nothing changes", k.rule(10, rule, assumed(ffl), 0), 2, ffl);
        int self = equation(x, x);
        int onSelf = assumed(equation(self, x));
        is("the outer place goes first", k.rule(10, onSelf, assumed(equation(self, self)), 0), 2, self);
    }
}
