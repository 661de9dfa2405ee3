/** "a set of at most 12 HYPOTHESES": twelve and thirteen of them, by every rule that puts some together. */
final class HypothesisTests {
    private static final int MOST = 12;

    private final Twin twin = new Twin();

    private HypothesisTests() {
    }

    static void all() {
        for (int op : new int[] {1, 2, 6, 7, 10}) {
            new HypothesisTests().together(op);
            new HypothesisTests().theSameOnesTwice(op);
        }
        for (int op : new int[] {3, 8, 9}) {
            new HypothesisTests().keptByOne(op);
        }
        new HypothesisTests().mergedByAVariable();
        new HypothesisTests().mergedByAType();
        new HypothesisTests().goneByRule7();
        new HypothesisTests().fromNone();
        new HypothesisTests().definitionsHaveNone();
    }

    /** Hypothesis i: an equation between variables of IND that stand nowhere else. */
    private static int hypothesis(SequentKernel k, int i) {
        return Sample.equation(k, k.variable(1 + i % 7, 1), k.variable(i / 7, 1));
    }

    /** The fact under the hypotheses from .. to - 1, too. */
    private int under(int fact, int from, int to) {
        int made = fact;
        for (int i = from; i < to; i++) {
            int before = made;
            int number = i;
            made = twin.made("under one more", k -> k.rule(10, Sample.assumed(k, hypothesis(k, number)), before, 0));
        }
        return made;
    }

    /** A fact without hypotheses that rule op takes as its first one, and the like for its second one. */
    private int plain(int op, boolean first) {
        switch (op) {
            case 2:
                return twin.made("plain", k -> k.rule(0, first ? k.variable(0, k.arrow(0, 0)) : Sample.p(k), 0, 0));
            case 6:
                return twin.made("plain", k -> k.rule(0, first ? k.conclusion(k.rule(0, Sample.p(k), 0, 0))
                        : Sample.p(k), 0, 0));
            default:
                return twin.made("plain", k -> k.rule(0, Sample.p(k), 0, 0));
        }
    }

    private void isMade(String what, int op, int a, int b, int due) {
        int made = twin.made(what, k -> k.rule(op, a, b, 0));
        Check.is(what + ": hypotheses", twin.both(k -> k.hypotheses(made)), due);
    }

    private void together(int op) {
        String what = "rule " + op + " with ";
        int plainSecond = plain(op, false);
        int six = under(plain(op, true), 0, 6);
        int sixMore = under(plainSecond, 6, MOST);
        int sevenMore = under(sixMore, MOST, MOST + 1);
        isMade(what + "6 and 6", op, six, sixMore, MOST);
        twin.refused(what + "6 and 7", k -> k.rule(op, six, sevenMore, 0));
        twin.both(k -> k.line(op, six, sixMore, 0));
        twin.both(k -> k.line(op, six, sevenMore, 0));
        twin.refused(what + "6 and 7 in line 1", -2, SequentKernel::replay);
        int all = under(six, 6, MOST);
        isMade(what + "12 and none", op, all, plainSecond, MOST);
        twin.alike(what + "13");
    }

    private void theSameOnesTwice(int op) {
        int first = under(plain(op, true), 0, MOST);
        int second = under(plain(op, false), 0, MOST);
        isMade("rule " + op + " with the same 12 and 12", op, first, second, MOST);
        isMade("rule " + op + " with the same ones again", op, first, second, MOST);
    }

    private void keptByOne(int op) {
        int all = under(plain(op, true), 0, MOST);
        int made = twin.made("rule " + op + " with 12", k -> {
            int a = k.typeVariable(0);
            return k.rule(op, op == 3 ? Sample.p(k) : all, op == 3 ? all : op == 8 ? Sample.p(k) : a,
                    op == 8 ? Sample.q(k) : 1);
        });
        Check.is("rule " + op + " keeps 12", twin.both(k -> k.hypotheses(made)), MOST);
    }

    /** Twelve that become seven, six, .. and one by rule 8. */
    private void mergedByAVariable() {
        int made = under(plain(1, true), 0, MOST);
        for (int i = 1; i <= 7; i++) {
            int before = made;
            int old = i;
            made = twin.made("rule 8", k -> k.rule(8, before, k.variable(old, 1), k.variable(0, 1)));
            int after = made;
            Check.is("after variable " + i, twin.both(k -> k.hypotheses(after)), 8 - i);
        }
        int last = made;
        Check.is("v = v", twin.both(k -> k.assumes(last, hypothesisOfItself(k)) ? 1 : 0), 1);
    }

    private static int hypothesisOfItself(SequentKernel k) {
        return Sample.equation(k, k.variable(0, 1), k.variable(0, 1));
    }

    /** v = v of a type variable and v = v of IND are one hypothesis when the type variable becomes IND. */
    private void mergedByAType() {
        int claim = twin.both(k -> Sample.assumed(k, hypothesisOfItself(k)));
        int general = twin.both(k -> {
            int v = k.variable(0, k.typeVariable(0));
            return Sample.assumed(k, Sample.equation(k, v, v));
        });
        int two = twin.made("rule 7", k -> k.rule(7, claim, general, 0));
        Check.is("two", twin.both(k -> k.hypotheses(two)), 2);
        int one = twin.made("rule 9", k -> k.rule(9, two, k.typeVariable(0), 1));
        Check.is("one", twin.both(k -> k.hypotheses(one)), 1);
    }

    /** "those of A but q, and those of B but p": what goes is not counted. */
    private void goneByRule7() {
        int p = twin.both(k -> Sample.assumed(k, Sample.p(k)));
        int q = twin.both(k -> Sample.assumed(k, Sample.q(k)));
        int pUnderTwelve = under(p, 0, MOST - 1);
        isMade("p under p and 11 more, with p under p: p goes from both", 7, pUnderTwelve, p, MOST - 1);
        isMade("in the other order", 7, p, pUnderTwelve, MOST - 1);
        isMade("with itself", 7, pUnderTwelve, pUnderTwelve, MOST - 1);
        twin.refused("with q under q: p stays, and q would be the 13th", k -> k.rule(7, pUnderTwelve, q, 0));
        twin.refused("in the other order", k -> k.rule(7, q, pUnderTwelve, 0));
        twin.alike("rule 7 with a 13th");
    }

    private void fromNone() {
        int none = plain(1, true);
        Check.is("a fact without hypotheses", twin.both(k -> k.hypotheses(none)), 0);
        Check.is("has not its own conclusion", twin.both(k -> k.assumes(none, k.conclusion(none)) ? 1 : 0), 0);
        isMade("none and none", 1, none, none, 0);
        int one = under(none, 0, 1);
        isMade("none and one", 1, none, one, 1);
        isMade("one and none", 1, one, none, 1);
    }

    /** "the fact without hypotheses", also right after a fact with some, and after a 13th was refused. */
    private void definitionsHaveNone() {
        int identity = twin.both(k -> k.lambda(Sample.p(k), Sample.p(k)));
        int claim = twin.made("a claim", k -> k.rule(0, identity, 0, 0));
        int all = under(claim, 0, MOST);
        hasNone("define after 12", twin.made("define", k -> k.define(identity)));
        twin.made("12 again", k -> k.rule(8, all, Sample.p(k), Sample.q(k)));
        int type = twin.made("defineType", k -> k.defineType(claim));
        hasNone("defineType after 12, first", type);
        hasNone("defineType after 12, second", type + 1);
        int one = twin.both(k -> Sample.assumed(k, Sample.equation(k, identity, identity)));
        twin.refused("a 13th", k -> k.rule(1, all, one, 0));
        hasNone("define after a refused 13th", twin.made("define", k -> k.define(identity)));
        twin.refused("a 13th", k -> k.rule(1, all, one, 0));
        type = twin.made("defineType", k -> k.defineType(claim));
        hasNone("defineType after a refused 13th, first", type);
        hasNone("defineType after a refused 13th, second", type + 1);
        twin.refused("a fact with 12 is none to define a type from", k -> k.defineType(all));
        twin.alike("definitions after a 13th hypothesis");
    }

    private void hasNone(String what, int fact) {
        Check.is(what, twin.both(k -> k.hypotheses(fact)), 0);
    }
}
