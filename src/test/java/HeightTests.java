import java.util.function.BiFunction;
import java.util.function.ToIntBiFunction;

/**
 * "terms of a height above 20 and types of a height above 10 are TOO HIGH", and a call that would
 * make such a thing is refused: for every call that makes higher things from those it is given, the
 * greatest height that it takes, and one more.
 */
final class HeightTests {
    /** Makes, with a thing of the height that is given, the arguments of a call. */
    private interface Prepare extends BiFunction<SequentKernel, Integer, int[]> {
    }

    private interface Call extends ToIntBiFunction<SequentKernel, int[]> {
    }

    private static final Call APPLY = (k, m) -> k.apply(m[0], m[1]);
    private static final Call LAMBDA = (k, m) -> k.lambda(m[0], m[1]);
    private static final Call DEFINE = (k, m) -> k.define(m[0]);
    private static final Call DEFINE_TYPE = (k, m) -> k.defineType(m[0]);

    private HeightTests() {
    }

    static void all() {
        termsByCalls();
        termsByRules();
        termsByChanges();
        typesByCalls();
        typesByRules();
        byLines();
        noHigherThanBefore();
        deepestBounds();
        deepestTypeVariables();
    }

    private static void termsByCalls() {
        most("apply, x", 19, (k, h) -> made(f(k), tower(k, h)), APPLY);
        most("apply, f", 19, (k, h) -> made(function(k, h), p(k)), APPLY);
        most("lambda", 19, (k, h) -> made(p(k), tower(k, h)), LAMBDA);
        most("lambda, x not free", 19, (k, h) -> made(ind(k), tower(k, h)), LAMBDA);
        most("define", 19, (k, h) -> made(closed(k, h)), DEFINE);
        most("defineType", 16, (k, h) -> made(same(k, closed(k, h))), DEFINE_TYPE);
    }

    private static void termsByRules() {
        most("rule 0", 18, (k, h) -> made(tower(k, h)), rule(0));
        most("rule 2, x", 17, (k, h) -> made(same(k, f(k)), equal(k, tower(k, h), p(k))), rule(2));
        most("rule 2, y", 18, (k, h) -> made(same(k, f(k)), equal(k, p(k), tower(k, h))), rule(2));
        most("rule 2, f", 17, (k, h) -> made(equal(k, function(k, h), f(k)), same(k, p(k))), rule(2));
        most("rule 2, g", 18, (k, h) -> made(equal(k, f(k), function(k, h)), same(k, p(k))), rule(2));
        most("rule 3, s", 17, (k, h) -> made(ind(k), equal(k, tower(k, h), p(k))), rule(3));
        most("rule 3, t", 18, (k, h) -> made(ind(k), equal(k, p(k), tower(k, h))), rule(3));
        most("rule 7, p", 18, (k, h) -> made(assumed(k, tower(k, h)), assumed(k, q(k))), rule(7));
        most("rule 7, q", 19, (k, h) -> made(assumed(k, q(k)), assumed(k, tower(k, h))), rule(7));
    }

    /** What is put in stands in a place of a term that is high already. */
    private static void termsByChanges() {
        most("rule 4, a", 18, (k, h) -> made(k.apply(k.lambda(p(k), q(k)), tower(k, h - 1))), rule(4));
        most("rule 4, opened", 10, (k, h) -> made(k.apply(k.lambda(p(k), tower(k, 10)), tower(k, h))), rule(4));
        most("rule 8, the conclusion", 11, (k, h) -> made(same(k, tower(k, 8)), p(k), tower(k, h)), rule(8));
        most("rule 8, a hypothesis", 10, (k, h) -> made(underHigh(k), p(k), tower(k, h)), rule(8));
        most("rule 10", 11, (k, h) -> made(equal(k, p(k), tower(k, h)), assumed(k, tower(k, 10))), rule(10));
    }

    private static void typesByCalls() {
        most("arrow from", 9, (k, h) -> made(type(k, h)), (k, m) -> k.arrow(m[0], 0));
        most("arrow to", 9, (k, h) -> made(type(k, h)), (k, m) -> k.arrow(0, m[0]));
        most("equality of a type", 8, (k, h) -> made(type(k, h)), (k, m) -> k.equality(m[0]));
        most("lambda, type of x", 9, (k, h) -> made(of(k, h), p(k)), LAMBDA);
        most("lambda, type of t", 9, (k, h) -> made(p(k), of(k, h)), LAMBDA);
        most("define, the type", 8, (k, h) -> made(closedOf(k, h)), DEFINE);
        most("defineType, A", 8, (k, h) -> made(factOf(k, type(k, h))), DEFINE_TYPE);
    }

    private static void typesByRules() {
        most("rule 0, type of a", 8, (k, h) -> made(of(k, h)), rule(0));
        most("rule 3, type of a", 7, (k, h) -> made(of(k, h), same(k, p(k))), rule(3));
        most("rule 3, type of s", 7, (k, h) -> made(p(k), same(k, of(k, h))), rule(3));
        most("rule 4, type of a", 8, (k, h) -> made(k.apply(k.lambda(p(k), of(k, h)), q(k))), rule(4));
        most("rule 9, an equality", 8,
                (k, h) -> made(same(k, k.variable(0, k.typeVariable(0))), k.typeVariable(0), type(k, h)), rule(9));
        most("rule 9, a variable", 9, (k, h) -> made(general(k), k.typeVariable(0), type(k, h)), rule(9));
        most("rule 9, a hypothesis", 8, (k, h) -> made(underGeneral(k), k.typeVariable(0), type(k, h)), rule(9));
    }

    private static void most(String what, int most, Prepare prepare, Call call) {
        SequentKernel fine = new SequentKernel();
        int[] ready = prepare.apply(fine, most);
        Check.yes(what + " with height " + most, call.applyAsInt(fine, ready) >= 0);
        Twin twin = new Twin();
        int[][] high = new int[1][];
        twin.both(k -> {
            high[0] = prepare.apply(k, most + 1);
            return k.count(0);
        });
        twin.refused(what + " with height " + (most + 1), k -> call.applyAsInt(k, high[0]));
        twin.alike(what + " with height " + (most + 1));
    }

    private static Call rule(int op) {
        return (k, m) -> k.rule(op, m[0], m.length > 1 ? m[1] : 0, m.length > 2 ? m[2] : 0);
    }

    /** The refusal has to be for the height, so all that the call is given must be there. */
    private static int[] made(int... numbers) {
        for (int number : numbers) {
            Check.yes("what is needed is there", number >= 0);
        }
        return numbers;
    }

    private static int p(SequentKernel k) {
        return Sample.p(k);
    }

    private static int q(SequentKernel k) {
        return Sample.q(k);
    }

    private static int ind(SequentKernel k) {
        return k.variable(0, 1);
    }

    private static int f(SequentKernel k) {
        return k.variable(3, k.arrow(0, 0));
    }

    private static int assumed(SequentKernel k, int t) {
        return Sample.assumed(k, t);
    }

    private static int same(SequentKernel k, int t) {
        return k.rule(0, t, 0, 0);
    }

    private static int equal(SequentKernel k, int left, int right) {
        return assumed(k, Sample.equation(k, left, right));
    }

    /** f (f (.. p)), of the height wanted. */
    private static int tower(SequentKernel k, int height) {
        int t = p(k);
        int f = f(k);
        for (int h = 2; h <= height; h++) {
            t = k.apply(f, t);
        }
        return t;
    }

    /** A term from BOOL to BOOL, of the height wanted. */
    private static int function(SequentKernel k, int height) {
        return k.apply(k.variable(4, k.arrow(0, k.arrow(0, 0))), tower(k, height - 1));
    }

    private static int identity(SequentKernel k) {
        return k.lambda(p(k), p(k));
    }

    /** A term without variables, of BOOL and of the height wanted, from 4. */
    private static int closed(SequentKernel k, int height) {
        int identity = identity(k);
        int t = Sample.equation(k, identity, identity);
        for (int h = 5; h <= height; h++) {
            t = k.apply(identity, t);
        }
        return t;
    }

    /** q, under q and f (.. p) = q, where f (.. p) is of height 9. */
    private static int underHigh(SequentKernel k) {
        return k.rule(10, equal(k, tower(k, 9), q(k)), assumed(k, q(k)), 0);
    }

    private static int type(SequentKernel k, int height) {
        int type = 1;
        for (int h = 2; h <= height; h++) {
            type = k.arrow(0, type);
        }
        return type;
    }

    /** A variable of a type of the height wanted. */
    private static int of(SequentKernel k, int height) {
        return k.variable(0, type(k, height));
    }

    /** A term without variables, of a type of the height wanted, from 2. */
    private static int closedOf(SequentKernel k, int height) {
        int t = identity(k);
        for (int h = 3; h <= height; h++) {
            t = k.lambda(p(k), t);
        }
        return t;
    }

    /** The fact that P holds of a variable of the type, where P is without variables and holds of all. */
    private static int factOf(SequentKernel k, int type) {
        int v = k.variable(0, type);
        int sure = k.rule(0, identity(k), 0, 0);
        int claim = k.apply(k.lambda(v, k.conclusion(sure)), v);
        int claimItself = same(k, claim);
        int half = k.rule(2, same(k, k.equality(0)), k.rule(4, claim, 0, 0), 0);
        int turned = k.rule(6, k.rule(2, half, claimItself, 0), claimItself, 0);
        return k.rule(6, turned, sure, 0);
    }

    /** A claim about a variable of type variable 0, without an equality of that type. */
    private static int general(SequentKernel k) {
        int a = k.typeVariable(0);
        return assumed(k, k.apply(k.variable(0, k.arrow(a, 0)), k.variable(0, a)));
    }

    /** p, under p and an equation between variables of type variable 0. */
    private static int underGeneral(SequentKernel k) {
        int a = k.typeVariable(0);
        return k.rule(10, equal(k, k.variable(0, a), k.variable(1, a)), assumed(k, p(k)), 0);
    }

    private static void byLines() {
        Twin twin = new Twin();
        int high = twin.both(k -> tower(k, 19));
        int fine = twin.both(k -> k.part(high, 1));
        twin.both(k -> k.line(0, fine, 0, 0));
        Check.is("height 18 in a line of rule 0", twin.both(SequentKernel::replay), 1);
        twin.both(k -> k.line(0, ind(k), 0, 0));
        twin.both(k -> k.line(0, high, 0, 0));
        twin.refused("height 19 in a line of rule 0", -3, SequentKernel::replay);
        twin.alike("height 19 in a line of rule 0");
        Twin ofTypes = new Twin();
        int highType = ofTypes.both(k -> of(k, 9));
        ofTypes.both(k -> k.line(0, of(k, 8), 0, 0));
        Check.is("type height 8 in a line of rule 0", ofTypes.both(SequentKernel::replay), 1);
        ofTypes.both(k -> k.line(0, ind(k), 0, 0));
        ofTypes.both(k -> k.line(0, highType, 0, 0));
        ofTypes.refused("type height 9 in a line of rule 0", -3, SequentKernel::replay);
        ofTypes.alike("type height 9 in a line of rule 0");
    }

    /** What is as high as can be, and made no higher, is fine. */
    private static void noHigherThanBefore() {
        SequentKernel k = new SequentKernel();
        int top = tower(k, 20);
        int general = k.variable(0, k.typeVariable(0));
        Check.yes("rule 5 with height 20", assumed(k, top) >= 0);
        Check.yes("rule 8 with height 20", k.rule(8, 0, p(k), q(k)) >= 0);
        Check.yes("rule 9 with height 20", k.rule(9, 0, k.typeOf(general), 1) >= 0);
        Check.yes("rule 10 with height 20", k.rule(10, equal(k, p(k), q(k)), 0, 0) >= 0);
        int below = k.part(top, 1);
        int left = equal(k, k.part(below, 1), p(k));
        int right = equal(k, p(k), below);
        int made = k.rule(1, left, right, 0);
        Check.is("rule 1 with heights 18 and 19", k.part(k.conclusion(made), 1), below);
        Check.is("rule 6 with height 19", k.conclusion(k.rule(6, right, assumed(k, p(k)), 0)), below);
        Check.yes("a variable of a type of height 10", of(k, 10) >= 0);
        Check.yes("rule 3 of variables of types of height 7", k.rule(3, p(k), same(k, of(k, 7)), 0) >= 0);
    }

    /** z, or what is put in for it, under 14 abstractions: more would be too high for rule 4. */
    private static int deep(SequentKernel k, int z) {
        int other = k.variable(6, 0);
        int t = z;
        int type = 0;
        for (int i = 0; i < 8; i++) {
            t = k.lambda(other, t);
            type = k.arrow(0, type);
        }
        t = k.apply(k.variable(5, k.arrow(type, 0)), t);
        for (int i = 0; i < 6; i++) {
            t = k.lambda(other, t);
        }
        return t;
    }

    private static void deepestBounds() {
        SequentKernel k = new SequentKernel();
        int overP = k.lambda(p(k), deep(k, p(k)));
        Check.is("bound 14 of BOOL is made", k.lambda(q(k), deep(k, q(k))), overP);
        int opened = k.rule(4, k.apply(overP, q(k)), 0, 0);
        Check.is("opened with q", k.part(k.conclusion(opened), 1), deep(k, q(k)));
        int high = tower(k, 4);
        int openedHigh = k.rule(4, k.apply(overP, high), 0, 0);
        Check.is("opened with a term of height 4", k.part(k.conclusion(openedHigh), 1), deep(k, high));
        Check.no("p is bound", k.free(p(k), overP));
        Check.yes("p is free in what is put in", k.free(p(k), k.conclusion(openedHigh)));
    }

    /** Rule 9 where the type variable stands as deep as it can in a type of height 10, at either side. */
    private static void deepestTypeVariables() {
        SequentKernel k = new SequentKernel();
        int a = k.typeVariable(0);
        int right = k.rule(5, atTheRight(k, a), 0, 0);
        Check.is("at the right", k.conclusion(k.rule(9, right, a, 0)), atTheRight(k, 0));
        int left = k.rule(5, atTheLeft(k, a), 0, 0);
        Check.is("at the left", k.conclusion(k.rule(9, left, a, 0)), atTheLeft(k, 0));
        int terms = k.count(0);
        int types = k.count(1);
        int facts = k.count(2);
        Check.is("11 at the right", k.rule(9, right, a, k.arrow(0, 1)), -1);
        Check.is("11 at the left", k.rule(9, left, a, k.arrow(0, 1)), -1);
        Check.is("terms", k.count(0), terms);
        Check.is("the arrow alone is new", k.count(1), types + 1);
        Check.is("facts", k.count(2), facts);
    }

    /** BOOL to (BOOL to .. (the type to BOOL)), of height 10, with all its arguments. */
    private static int atTheRight(SequentKernel k, int deepest) {
        int type = k.arrow(deepest, 0);
        for (int h = 3; h <= 10; h++) {
            type = k.arrow(0, type);
        }
        int t = k.variable(5, type);
        for (int h = 3; h <= 10; h++) {
            t = k.apply(t, p(k));
        }
        return k.apply(t, k.variable(5, deepest));
    }

    /** ((the type to BOOL) to BOOL) .. to BOOL, of height 10, with its argument. */
    private static int atTheLeft(SequentKernel k, int deepest) {
        int from = deepest;
        for (int h = 2; h <= 9; h++) {
            from = k.arrow(from, 0);
        }
        return k.apply(k.variable(5, k.arrow(from, 0)), k.variable(5, from));
    }
}
