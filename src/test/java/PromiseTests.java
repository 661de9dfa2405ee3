/** One test or more for each of the promises 1 to 21; the rules and the limits have files of their own, too. */
final class PromiseTests {
    private static final int[] FAR = {-1, -2, 60, 250, 1000, Integer.MIN_VALUE, Integer.MAX_VALUE};

    private PromiseTests() {
    }

    static void all() {
        newObject();
        typeVariable();
        arrow();
        variable();
        equality();
        apply();
        lambda();
        rule();
        define();
        defineRefusals();
        defineType();
        typesAtMostThree();
        defineTypeRefusals();
        line();
        clear();
        replay();
        replayTakesAllBack();
        replayArguments();
        typeOf();
        kindAndPart();
        free();
        conclusion();
        hypothesesAndAssumes();
        count();
        numbersAreGivenByAnswers();
    }

    private static void counts(String what, SequentKernel k, int terms, int types, int facts) {
        Check.is(what + ": terms", k.count(0), terms);
        Check.is(what + ": types", k.count(1), types);
        Check.is(what + ": facts", k.count(2), facts);
    }

    private static void newObject() {
        SequentKernel k = new SequentKernel();
        counts("new", k, 0, 2, 0);
        Check.is("numbered terms", k.count(3), 0);
        Check.is("numbered types", k.count(4), 2);
        Check.is("no lines", k.clear(), 0);
        Check.is("nothing to replay", k.replay(), 0);
        Check.is("no fact", k.conclusion(0), -1);
        Check.is("no term", k.kind(0), -1);
        Check.is("BOOL and IND are types", k.arrow(0, 1), 2);
        SequentKernel other = new SequentKernel();
        Check.is("objects are apart", other.count(1), 2);
    }

    private static void typeVariable() {
        SequentKernel k = new SequentKernel();
        for (int i = 3; i >= 0; i--) {
            Check.is("type variable " + i, k.typeVariable(i), 5 - i);
        }
        Check.is("again", k.typeVariable(2), 3);
        Check.is("4", k.typeVariable(4), -1);
        for (int far : FAR) {
            Check.is("typeVariable(" + far + ")", k.typeVariable(far), -1);
        }
        counts("type variables", k, 0, 6, 0);
    }

    private static void arrow() {
        SequentKernel k = new SequentKernel();
        Check.is("0 to 1", k.arrow(0, 1), 2);
        Check.is("1 to 0 is another one", k.arrow(1, 0), 3);
        Check.is("again", k.arrow(0, 1), 2);
        Check.is("of arrows", k.arrow(2, 3), 4);
        Check.is("first is none", k.arrow(5, 0), -1);
        Check.is("second is none", k.arrow(0, 5), -1);
        for (int far : FAR) {
            Check.is("arrow(" + far + ", 0)", k.arrow(far, 0), -1);
            Check.is("arrow(0, " + far + ")", k.arrow(0, far), -1);
        }
        counts("arrows", k, 0, 5, 0);
        k.equality(1);
        Check.is("a type without number is not known", k.arrow(5, 0), -1);
        Check.is("it gets the next one", k.arrow(1, k.arrow(1, 0)), 5);
        Check.is("it was in the store", k.count(1), 6);
    }

    private static void variable() {
        SequentKernel k = new SequentKernel();
        Check.is("0 of BOOL", k.variable(0, 0), 0);
        Check.is("0 of IND is another one", k.variable(0, 1), 1);
        Check.is("7 of BOOL", k.variable(7, 0), 2);
        Check.is("again", k.variable(0, 1), 1);
        Check.is("8", k.variable(8, 0), -1);
        Check.is("no type", k.variable(0, 2), -1);
        for (int far : FAR) {
            Check.is("variable(" + far + ", 0)", k.variable(far, 0), -1);
            Check.is("variable(0, " + far + ")", k.variable(0, far), -1);
        }
        counts("variables", k, 3, 2, 0);
    }

    private static void equality() {
        SequentKernel k = new SequentKernel();
        Check.is("of BOOL", k.equality(0), 0);
        counts("of BOOL", k, 1, 4, 0);
        Check.is("of IND", k.equality(1), 1);
        counts("of IND", k, 2, 6, 0);
        Check.is("again", k.equality(0), 0);
        Check.is("its type is new to the caller", k.typeOf(0), 2);
        Check.is("from BOOL to (BOOL to BOOL)", k.arrow(0, k.arrow(0, 0)), 2);
        for (int far : FAR) {
            Check.is("equality(" + far + ")", k.equality(far), -1);
        }
        counts("refused ones", k, 2, 6, 0);
    }

    private static void apply() {
        SequentKernel k = new SequentKernel();
        int f = k.variable(0, k.arrow(0, 1));
        int x = k.variable(0, 0);
        int y = k.variable(0, 1);
        Check.is("f x", k.apply(f, x), 3);
        Check.is("of the arrow's second type", k.typeOf(3), 1);
        Check.is("again", k.apply(f, x), 3);
        Check.is("y is of another type", k.apply(f, y), -1);
        Check.is("x is no function", k.apply(x, y), -1);
        Check.is("f f", k.apply(f, f), -1);
        for (int far : FAR) {
            Check.is("apply(" + far + ", x)", k.apply(far, x), -1);
            Check.is("apply(f, " + far + ")", k.apply(f, far), -1);
        }
        counts("applications", k, 4, 3, 0);
    }

    private static void lambda() {
        SequentKernel k = new SequentKernel();
        int x = k.variable(0, 0);
        int y = k.variable(1, 0);
        int sameX = k.lambda(x, x);
        Check.is("\\x. x", sameX, 2);
        Check.is("\\y. y is the same one", k.lambda(y, y), sameX);
        counts("\\x. x", k, 4, 3, 0);
        int toY = k.lambda(x, y);
        Check.is("\\x. y", toY, 3);
        Check.is("\\x y. x", k.lambda(x, k.lambda(y, x)), 5);
        Check.is("\\y x. x is another one", k.lambda(y, k.lambda(x, x)), 6);
        Check.is("\\y x. y is that of before", k.lambda(y, k.lambda(x, y)), 5);
        Check.is("no variable", k.lambda(sameX, x), -1);
        int ofInd = k.variable(0, 1);
        Check.is("k alone does not make it the variable", k.free(x, k.lambda(ofInd, x)) ? 1 : 0, 1);
        for (int far : FAR) {
            Check.is("lambda(" + far + ", x)", k.lambda(far, x), -1);
            Check.is("lambda(x, " + far + ")", k.lambda(x, far), -1);
        }
    }

    private static void rule() {
        SequentKernel k = new SequentKernel();
        int x = k.variable(0, 0);
        Check.is("a fact", k.rule(5, x, 0, 0), 0);
        Check.is("one like it is a new one", k.rule(5, x, 0, 0), 1);
        Check.is("what is not used is not looked at", k.rule(0, x, -7, 99), 2);
        Check.is("no rule 11", k.rule(11, 0, 0, 0), -1);
        for (int far : FAR) {
            Check.is("rule(" + far + ", ..)", k.rule(far, 0, 0, 0), -1);
            for (int op = 0; op <= 10; op++) {
                Check.is("rule " + op + " of " + far, k.rule(op, far, far, far), -1);
            }
        }
        Check.is("no reference to a line outside a trace", k.rule(7, -1, -1, 0), -1);
        Check.is("facts", k.count(2), 3);
    }

    private static void define() {
        SequentKernel k = new SequentKernel();
        int x = k.variable(0, 0);
        int identity = k.lambda(x, x);
        k.rule(0, x, 0, 0);
        Check.is("the next fact", k.define(identity), 1);
        Check.is("no hypotheses", k.hypotheses(1), 0);
        int equation = k.conclusion(1);
        int constant = k.part(k.part(equation, 0), 1);
        Check.is("a constant", k.kind(constant), 2);
        Check.is("constant 0", k.part(constant, 0), 0);
        Check.is("of the term's type", k.typeOf(constant), k.typeOf(identity));
        Check.is("= the term", k.part(equation, 1), identity);
        Check.is("once more", k.define(identity), 2);
        Check.is("another constant", k.part(k.part(k.part(k.conclusion(2), 0), 1), 0), 1);
        Check.is("of a constant", k.define(constant), 3);
        Check.is("of an equality", k.define(k.equality(1)), 4);
    }

    private static void defineRefusals() {
        SequentKernel k = new SequentKernel();
        int x = k.variable(0, 0);
        int y = k.variable(1, 0);
        int a = k.typeVariable(0);
        int ofA = k.variable(0, a);
        int equalityOfA = k.equality(k.arrow(0, a));
        int identity = k.lambda(ofA, ofA);
        int hidden = k.apply(k.lambda(k.variable(0, k.typeOf(identity)), k.equality(0)), identity);
        int before = k.count(0);
        Check.is("a variable", k.define(x), -1);
        Check.is("one that is free", k.define(k.lambda(x, y)), -1);
        Check.is("a type variable in an equality", k.define(equalityOfA), -1);
        Check.is("in an abstraction", k.define(identity), -1);
        Check.is("in a part alone", k.define(hidden), -1);
        Check.is("its own type has none", k.typeOf(hidden), k.typeOf(k.equality(0)));
        for (int far : FAR) {
            Check.is("define(" + far + ")", k.define(far), -1);
        }
        counts("refused ones", k, before + 1, k.count(1), 0);
        int fine = k.equality(0);
        for (int i = 0; i < 8; i++) {
            Check.is("constant " + i, k.define(fine), i);
        }
        int full = k.count(0);
        Check.is("a ninth", k.define(fine), -1);
        counts("a ninth", k, full, k.count(1), 8);
    }

    /** A fact (\x. x) = (\x. x), whose conclusion is (= \x. x) applied to \x. x. */
    private static int identityFact(SequentKernel k) {
        int x = k.variable(0, 0);
        return k.rule(0, k.lambda(x, x), 0, 0);
    }

    private static void defineType() {
        SequentKernel k = new SequentKernel();
        int fact = identityFact(k);
        int x = k.variable(0, 0);
        int identity = k.lambda(x, x);
        k.define(k.equality(0));
        int types = k.count(1);
        Check.is("the first of two facts", k.defineType(fact), 2);
        Check.is("two facts", k.count(2), 4);
        Check.is("T, A to T, T to A, and those of the equality of T", k.count(1), types + 5);
        Check.is("no hypotheses", k.hypotheses(2) + k.hypotheses(3), 0);
        int first = k.conclusion(2);
        int v = k.part(first, 1);
        int upDownV = k.part(k.part(first, 0), 1);
        int up = k.part(upDownV, 0);
        int down = k.part(k.part(upDownV, 1), 0);
        Check.is("v is variable 0", k.kind(v) * 10 + k.part(v, 0), 0);
        Check.is("down v", k.part(k.part(upDownV, 1), 1), v);
        Check.is("up is the constant after the one that was there", k.part(up, 0), 1);
        Check.is("down is the next one", k.part(down, 0), 2);
        int a = k.typeOf(identity);
        int fresh = k.typeOf(v);
        Check.is("up is from A to T", k.typeOf(up), k.arrow(a, fresh));
        Check.is("down is from T to A", k.typeOf(down), k.arrow(fresh, a));
        int w = k.variable(0, a);
        int predicate = k.apply(k.equality(a), identity);
        int back = k.apply(k.apply(k.equality(a), k.apply(down, k.apply(up, w))), w);
        int second = k.apply(k.apply(k.equality(0), k.apply(predicate, w)), back);
        Check.is("(P w) = ((down (up w)) = w)", k.conclusion(3), second);
        Check.is("a second type", k.defineType(fact), 4);
        int otherV = k.part(k.conclusion(4), 1);
        Check.yes("it is another one", k.typeOf(otherV) != fresh);
        Check.is("its up is the next constant", k.part(k.part(k.part(k.part(k.conclusion(4), 0), 1), 0), 0), 3);
    }

    /** The constants would be enough for a fourth type. */
    private static void typesAtMostThree() {
        SequentKernel k = new SequentKernel();
        int fact = identityFact(k);
        for (int i = 0; i < 3; i++) {
            Check.is("type " + i, k.defineType(fact), 1 + 2 * i);
        }
        int terms = k.count(0);
        int types = k.count(1);
        Check.is("no fourth type", k.defineType(fact), -1);
        counts("no fourth type", k, terms, types, 7);
        Check.is("constant 6 is still there", k.define(k.equality(0)), 7);
        Check.is("constant 7, too", k.define(k.equality(0)), 8);
        Check.is("no ninth", k.define(k.equality(0)), -1);
    }

    private static void defineTypeRefusals() {
        SequentKernel k = new SequentKernel();
        int x = k.variable(0, 0);
        int y = k.variable(1, 0);
        int ofA = k.variable(0, k.typeVariable(0));
        int identityOfA = k.lambda(ofA, ofA);
        Check.is("no application", k.defineType(k.rule(5, x, 0, 0)), -1);
        Check.is("a variable is free in P", k.defineType(k.rule(0, x, 0, 0)), -1);
        Check.is("a type variable is in P", k.defineType(k.rule(0, identityOfA, 0, 0)), -1);
        int claim = k.apply(k.lambda(y, y), x);
        int assumed = k.rule(5, claim, 0, 0);
        Check.is("hypotheses", k.defineType(assumed), -1);
        Check.is("no such fact", k.defineType(assumed + 1), -1);
        for (int far : FAR) {
            Check.is("defineType(" + far + ")", k.defineType(far), -1);
        }
        int good = identityFact(k);
        int constant = k.equality(0);
        for (int i = 0; i < 7; i++) {
            k.define(constant);
        }
        int terms = k.count(0);
        int types = k.count(1);
        int facts = k.count(2);
        Check.is("7 constants", k.defineType(good), -1);
        counts("7 constants", k, terms, types, facts);
        Check.is("the eighth is still there", k.define(constant), facts);
        SequentKernel six = new SequentKernel();
        int fact = identityFact(six);
        for (int i = 0; i < 6; i++) {
            six.define(six.equality(0));
        }
        Check.is("6 constants", six.defineType(fact), 7);
        freeInTheArgument();
    }

    /** P has to be without free variables; what it is applied to may have them. */
    private static void freeInTheArgument() {
        SequentKernel k = new SequentKernel();
        int x = k.variable(0, 0);
        int alwaysTrue = k.lambda(x, k.apply(k.apply(k.equality(0), x), x));
        int claim = k.apply(alwaysTrue, x);
        int opened = k.rule(4, claim, 0, 0);
        int selfEqual = k.rule(0, x, 0, 0);
        int claimItself = k.rule(0, claim, 0, 0);
        int equality = k.rule(0, k.equality(0), 0, 0);
        int half = k.rule(2, equality, opened, 0);
        int turned = k.rule(2, half, claimItself, 0);
        int symmetric = k.rule(6, turned, claimItself, 0);
        int holds = k.rule(6, symmetric, selfEqual, 0);
        Check.is("|- (\\x. x = x) x", k.conclusion(holds), claim);
        Check.is("x is free in the argument alone", k.defineType(holds), holds + 1);
    }

    private static void line() {
        SequentKernel k = new SequentKernel();
        Check.is("11", k.line(11, 0, 0, 0), -1);
        for (int far : FAR) {
            Check.is("line(" + far + ", ..)", k.line(far, 0, 0, 0), -1);
        }
        for (int i = 0; i < 12; i++) {
            Check.is("line " + i, k.line(i % 11, Integer.MIN_VALUE, Integer.MAX_VALUE, -5), i);
        }
        Check.is("a thirteenth", k.line(0, 0, 0, 0), -1);
        Check.is("twelve", k.clear(), 12);
        Check.is("places begin anew", k.line(0, 0, 0, 0), 0);
    }

    private static void clear() {
        SequentKernel k = new SequentKernel();
        int x = k.variable(0, 0);
        k.line(0, x, 0, 0);
        k.line(5, x, 0, 0);
        Check.is("replayed", k.replay(), 2);
        Check.is("two", k.clear(), 2);
        Check.is("none", k.clear(), 0);
        Check.is("nothing to replay", k.replay(), 0);
        Check.is("the facts stay", k.count(2), 2);
    }

    private static void replay() {
        SequentKernel k = new SequentKernel();
        int x = k.variable(0, 0);
        k.rule(5, x, 0, 0);
        k.line(0, x, 0, 0);
        k.line(5, x, 0, 0);
        k.line(6, -1, -2, 0);
        k.line(7, 0, -3, 0);
        Check.is("four lines", k.replay(), 4);
        Check.is("four facts", k.count(2), 5);
        Check.is("line 2 used lines 0 and 1", k.conclusion(3), x);
        Check.is("line 3: x = x", k.conclusion(4), k.conclusion(1));
        Check.is("the trace stays, and line 0 is the new line 0", k.replay(), 4);
        Check.is("facts after that", k.count(2), 9);
        Check.is("line 3 again", k.conclusion(8), k.conclusion(4));
        Check.is("its hypotheses", k.hypotheses(8), 0);
        Check.is("rule() knows no lines, after a replay either", k.rule(7, -1, -1, 0), -1);
    }

    private static void replayTakesAllBack() {
        SequentKernel k = new SequentKernel();
        int ofA = k.variable(0, k.typeVariable(0));
        int x = k.variable(1, 0);
        k.rule(0, ofA, 0, 0);
        int terms = k.count(0);
        int types = k.count(1);
        k.line(0, x, 0, 0);
        k.line(9, 0, 2, 1);
        k.line(3, x, -1, 0);
        k.line(6, -3, -3, 0);
        Check.is("line 3 is refused", k.replay(), -4);
        counts("all is as before", k, terms, types, 1);
        Check.is("numbers", k.count(3), 2);
        Check.is("no fact", k.conclusion(1), -1);
        Check.is("the trace stays", k.clear(), 4);
        Check.is("what was taken back can be made", k.lambda(x, x), 2);
        Check.is("and gets its own place", k.count(0), terms + 2);
        Check.is("an equation over it", k.rule(0, k.lambda(x, x), 0, 0), 1);
        k.line(3, ofA, 0, 0);
        k.line(0, 99, 0, 0);
        Check.is("line 1 is refused", k.replay(), -2);
        Check.is("line 0 of nothing", k.clear(), 2);
        k.line(0, -1, 0, 0);
        Check.is("line 0 is refused", k.replay(), -1);
    }

    private static void replayArguments() {
        SequentKernel k = new SequentKernel();
        int x = k.variable(0, 0);
        k.rule(0, x, 0, 0);
        k.line(5, x, 0, 0);
        k.line(7, 1, 0, 0);
        Check.is("a fact's number that line 0 makes", k.replay(), 2);
        Check.is("two facts more", k.count(2), 3);
        k.clear();
        k.line(7, -1, 0, 0);
        Check.is("a line is not an earlier one of itself", k.replay(), -1);
        k.clear();
        k.line(0, x, 0, 0);
        k.line(7, -1, -3, 0);
        Check.is("nor is a later one", k.replay(), -2);
        k.clear();
        k.line(0, x, 0, 0);
        k.line(7, Integer.MIN_VALUE, -1, 0);
        Check.is("nor one far away", k.replay(), -2);
        k.clear();
        k.line(0, x, 0, 0);
        k.line(3, -1, -1, 0);
        Check.is("-1 is a fact only where a fact is taken", k.replay(), -2);
        k.clear();
        k.line(0, x, 0, 0);
        k.line(8, -1, x, x);
        k.line(10, -2, -1, 0);
        k.line(3, x, -3, 0);
        Check.is("rules 8, 10 and 3", k.replay(), 4);
    }

    private static void typeOf() {
        SequentKernel k = new SequentKernel();
        int x = k.variable(0, 1);
        Check.is("IND", k.typeOf(x), 1);
        int identity = k.lambda(x, x);
        Check.is("types with a number", k.count(4), 2);
        Check.is("gets a number", k.typeOf(identity), 2);
        Check.is("has it", k.typeOf(identity), 2);
        Check.is("is the arrow", k.arrow(1, 1), 2);
        Check.is("types with a number now", k.count(4), 3);
        Check.is("no term", k.typeOf(2), -1);
        for (int far : FAR) {
            Check.is("typeOf(" + far + ")", k.typeOf(far), -1);
        }
    }

    private static void kindAndPart() {
        SequentKernel k = new SequentKernel();
        int x = k.variable(5, 0);
        int equality = k.equality(0);
        int half = k.apply(equality, x);
        int identity = k.lambda(x, x);
        k.define(identity);
        int constant = k.part(k.part(k.conclusion(0), 0), 1);
        int[] terms = {x, equality, constant, half, identity};
        for (int kind = 0; kind < terms.length; kind++) {
            Check.is("kind " + kind, k.kind(terms[kind]), kind);
            Check.is("part 2", k.part(terms[kind], 2), -1);
            Check.is("part -1", k.part(terms[kind], -1), -1);
        }
        Check.is("the k of a variable", k.part(x, 0), 5);
        Check.is("no part 1 of a variable", k.part(x, 1), -1);
        Check.is("the number of a constant", k.part(constant, 0), 0);
        Check.is("no part 1 of a constant", k.part(constant, 1), -1);
        Check.is("f", k.part(half, 0), equality);
        Check.is("x", k.part(half, 1), x);
        for (int i = 0; i < 2; i++) {
            Check.is("no part of an equality", k.part(equality, i), -1);
            Check.is("no part of an abstraction", k.part(identity, i), -1);
        }
        for (int far : FAR) {
            Check.is("kind(" + far + ")", k.kind(far), -1);
            Check.is("part(" + far + ", 0)", k.part(far, 0), -1);
            Check.is("part(half, " + far + ")", k.part(half, far), -1);
        }
    }

    private static void free() {
        SequentKernel k = new SequentKernel();
        int x = k.variable(0, 0);
        int y = k.variable(1, 0);
        int ofInd = k.variable(0, 1);
        int equation = k.apply(k.apply(k.equality(0), x), y);
        int overX = k.lambda(x, equation);
        Check.yes("x in x", k.free(x, x));
        Check.no("y in x", k.free(y, x));
        Check.no("0 of IND in 0 of BOOL", k.free(ofInd, x));
        Check.yes("x in x = y", k.free(x, equation));
        Check.yes("y in x = y", k.free(y, equation));
        Check.no("x in \\x. x = y", k.free(x, overX));
        Check.yes("y in \\x. x = y", k.free(y, overX));
        Check.no("an abstraction is no variable", k.free(overX, overX));
        Check.no("a part that is no variable", k.free(k.equality(0), equation));
        for (int far : FAR) {
            Check.no("free(" + far + ", x)", k.free(far, x));
            Check.no("free(x, " + far + ")", k.free(x, far));
        }
    }

    private static void conclusion() {
        SequentKernel k = new SequentKernel();
        int x = k.variable(0, 0);
        k.rule(0, x, 0, 0);
        k.rule(5, x, 0, 0);
        Check.is("terms with a number", k.count(3), 1);
        Check.is("gets a number", k.conclusion(0), 1);
        Check.is("had one", k.conclusion(1), x);
        Check.is("has it", k.conclusion(0), 1);
        Check.is("x = x", k.apply(k.apply(k.equality(0), x), x), 1);
        Check.is("no fact", k.conclusion(2), -1);
        for (int far : FAR) {
            Check.is("conclusion(" + far + ")", k.conclusion(far), -1);
        }
    }

    private static void hypothesesAndAssumes() {
        SequentKernel k = new SequentKernel();
        int x = k.variable(0, 0);
        int y = k.variable(1, 0);
        k.rule(0, x, 0, 0);
        k.rule(5, x, 0, 0);
        k.rule(5, y, 0, 0);
        k.rule(7, 1, 2, 0);
        Check.is("none", k.hypotheses(0), 0);
        Check.is("one", k.hypotheses(1), 1);
        Check.is("two", k.hypotheses(3), 2);
        Check.yes("x", k.assumes(1, x));
        Check.no("not y", k.assumes(1, y));
        Check.yes("x of two", k.assumes(3, x));
        Check.yes("y of two", k.assumes(3, y));
        Check.no("not the conclusion", k.assumes(3, k.conclusion(3)));
        Check.no("no fact", k.assumes(4, x));
        Check.is("no fact", k.hypotheses(4), -1);
        for (int far : FAR) {
            Check.is("hypotheses(" + far + ")", k.hypotheses(far), -1);
            Check.no("assumes(" + far + ", x)", k.assumes(far, x));
            Check.no("assumes(1, " + far + ")", k.assumes(1, far));
        }
    }

    private static void count() {
        SequentKernel k = new SequentKernel();
        int x = k.variable(0, 0);
        k.lambda(x, x);
        k.rule(0, x, 0, 0);
        Check.is("x, bound 0, \\x. x, =, (= x), x = x", k.count(0), 6);
        Check.is("BOOL, IND, BOOL to BOOL, that of =", k.count(1), 4);
        Check.is("facts", k.count(2), 1);
        Check.is("terms with a number", k.count(3), 2);
        Check.is("types with a number", k.count(4), 2);
        Check.is("5", k.count(5), -1);
        for (int far : FAR) {
            Check.is("count(" + far + ")", k.count(far), -1);
        }
    }

    private static void numbersAreGivenByAnswers() {
        SequentKernel k = new SequentKernel();
        int x = k.variable(3, 1);
        k.rule(0, x, 0, 0);
        Check.is("the equation", k.conclusion(0), 1);
        Check.is("its right side had a number", k.part(1, 1), x);
        Check.is("its function gets one", k.part(1, 0), 2);
        Check.is("the equality gets one", k.part(2, 0), 3);
        Check.is("equality() answers the same one", k.equality(1), 3);
        Check.is("refused calls give none", k.apply(x, x), -1);
        Check.is("the next one", k.variable(4, 1), 4);
    }
}
