/**
 * "THE RULES, with the arguments that they use (of the wrong sort, or not as said: refused; others
 * are not looked at)", for every rule and every argument, by rule() and by a line of a trace.
 */
final class ArgumentTests {
    private static final int[] WILD = {-1, -2, -13, 1, 60, 250, Integer.MIN_VALUE, Integer.MAX_VALUE};

    private final Sample sample;
    private final Twin twin = new Twin();
    private final int[] args;

    private ArgumentTests(Sample sample) {
        this.sample = sample;
        int[][] ready = new int[1][];
        twin.both(k -> {
            ready[0] = sample.prepare().apply(k);
            return k.count(2);
        });
        args = ready[0];
    }

    static void all() {
        for (Sample sample : Sample.OF_ALL_RULES) {
            new ArgumentTests(sample).usedOnes();
            new ArgumentTests(sample).usedOnesOfLines();
            new ArgumentTests(sample).otherOnes();
            new ArgumentTests(sample).earlierLines();
            new ArgumentTests(sample).linesThatAreNotEarlier();
            new ArgumentTests(sample).onlyFactsAreLines();
            new ArgumentTests(sample).notByRule();
        }
        noSuchRule();
        noEquations(false);
        noEquations(true);
        nothingToReplace();
        numbersNotYetGiven();
    }

    private String named(String what, int i, int argument) {
        return "rule " + sample.op() + ", " + what + " " + argument + " as argument " + i;
    }

    private int[] with(int i, int argument) {
        int[] changed = args.clone();
        changed[i] = argument;
        return changed;
    }

    private int line(SequentKernel k, int op, int[] of) {
        return k.line(op, of[0], of[1], of[2]);
    }

    /** The first number that is none, and those far from all that are. */
    private int[] noNumbers(int i) {
        int which = sample.sorts().charAt(i) == Sample.FACT ? 2 : sample.sorts().charAt(i) == Sample.TERM ? 3 : 4;
        int first = twin.both(k -> k.count(which));
        return new int[] {-1, -2, first, 60, 250, Integer.MIN_VALUE, Integer.MAX_VALUE};
    }

    private void usedOnes() {
        for (int i = 0; i < 3; i++) {
            if (sample.uses(i)) {
                for (int none : noNumbers(i)) {
                    int[] wrong = with(i, none);
                    twin.refused(named("no number", i, none), k -> sample.make(k, wrong));
                }
            }
        }
        twin.made("rule " + sample.op(), k -> sample.make(k, args));
        twin.alike("rule " + sample.op() + " with no numbers");
    }

    private void usedOnesOfLines() {
        for (int i = 0; i < 3; i++) {
            if (sample.uses(i)) {
                for (int none : noNumbers(i)) {
                    int[] wrong = with(i, none);
                    twin.both(SequentKernel::clear);
                    twin.made("a line", k -> line(k, sample.op(), args));
                    twin.made("a line", k -> line(k, sample.op(), wrong));
                    boolean first = sample.sorts().charAt(i) == Sample.FACT && none == -1;
                    boolean made = sample.sorts().charAt(i) == Sample.FACT && none == twin.both(k -> k.count(2));
                    if (!first && !made) {
                        twin.refused(named("in a line", i, none), -2, SequentKernel::replay);
                    }
                }
            }
        }
        twin.alike("lines of rule " + sample.op() + " with no numbers");
    }

    private void otherOnes() {
        int due = twin.made("rule " + sample.op(), k -> sample.make(k, args));
        int conclusion = twin.both(k -> k.conclusion(due));
        for (int i = 0; i < 3; i++) {
            for (int wild : sample.uses(i) ? new int[0] : WILD) {
                int[] other = with(i, wild);
                int made = twin.made(named("not looked at", i, wild), k -> sample.make(k, other));
                Check.is(named("not looked at", i, wild), twin.both(k -> k.conclusion(made)), conclusion);
                twin.both(SequentKernel::clear);
                twin.both(k -> line(k, sample.op(), other));
                Check.is(named("not looked at in a line", i, wild), twin.both(SequentKernel::replay), 1);
            }
        }
    }

    /** Lines 0 and 1 make facts like those that the rule takes: a variable that becomes itself changes nothing. */
    private void copyFacts() {
        for (int i = 0; i < 2; i++) {
            int from = sample.sorts().charAt(i) == Sample.FACT ? args[i] : 0;
            twin.made("a line", k -> k.count(2) == 0 ? k.line(5, Sample.p(k), 0, 0)
                    : k.line(8, from, Sample.p(k), Sample.p(k)));
        }
    }

    private int[] byLines() {
        int[] references = args.clone();
        for (int i = 0; i < 2; i++) {
            if (sample.sorts().charAt(i) == Sample.FACT) {
                references[i] = -1 - i;
            }
        }
        return references;
    }

    private void earlierLines() {
        copyFacts();
        int[] references = byLines();
        twin.made("a line", k -> line(k, sample.op(), references));
        Check.is("rule " + sample.op() + " of earlier lines", twin.both(SequentKernel::replay), 3);
        int made = twin.both(k -> k.count(2)) - 1;
        int due = twin.made("rule " + sample.op(), k -> sample.make(k, args));
        Check.is("rule " + sample.op() + " of earlier lines: conclusion",
                twin.both(k -> k.conclusion(made)), twin.both(k -> k.conclusion(due)));
        Check.is("rule " + sample.op() + " of earlier lines: hypotheses",
                twin.both(k -> k.hypotheses(made)), twin.both(k -> k.hypotheses(due)));
    }

    /** "an earlier one": not the line itself, none after it, none that is not there. */
    private void linesThatAreNotEarlier() {
        for (int i = 0; i < 2; i++) {
            for (int reference : new int[] {-3, -4, -12, -13, -14, Integer.MIN_VALUE}) {
                if (sample.sorts().charAt(i) == Sample.FACT) {
                    twin.both(SequentKernel::clear);
                    copyFacts();
                    int[] references = byLines();
                    references[i] = reference;
                    twin.made("a line", k -> line(k, sample.op(), references));
                    twin.made("a line after it", k -> line(k, sample.op(), byLines()));
                    twin.refused(named("no earlier line", i, reference), -3, SequentKernel::replay);
                }
            }
        }
        twin.alike("rule " + sample.op() + " of lines that are not earlier");
    }

    /** "an argument that a rule takes as a fact": in the place of a term or a type -1 is no line. */
    private void onlyFactsAreLines() {
        for (int i = 0; i < 3; i++) {
            if (sample.uses(i) && sample.sorts().charAt(i) != Sample.FACT) {
                twin.both(SequentKernel::clear);
                copyFacts();
                int[] references = byLines();
                references[i] = -1;
                twin.made("a line", k -> line(k, sample.op(), references));
                twin.refused(named("no fact", i, -1), -3, SequentKernel::replay);
            }
        }
        twin.alike("rule " + sample.op() + " with lines as terms or types");
    }

    /** "as by rule()" is said of lines alone: rule() itself knows none, also right after a replay. */
    private void notByRule() {
        copyFacts();
        Check.is("two lines", twin.both(SequentKernel::replay), 2);
        for (int i = 0; i < 2; i++) {
            if (sample.sorts().charAt(i) == Sample.FACT) {
                int[] wrong = with(i, -1 - i);
                twin.refused(named("rule() takes no line", i, -1 - i), k -> sample.make(k, wrong));
            }
        }
        twin.alike("rule " + sample.op() + " with lines outside a trace");
    }

    private static void noSuchRule() {
        Twin twin = new Twin();
        twin.both(k -> Sample.assumed(k, Sample.p(k)));
        for (int op : new int[] {-1, 11, 12, 250, Integer.MIN_VALUE, Integer.MAX_VALUE}) {
            twin.refused("rule " + op, k -> k.rule(op, 0, 0, 0));
            twin.refused("a line of rule " + op, k -> k.line(op, 0, 0, 0));
        }
        twin.made("rule 0", k -> k.rule(0, 0, 0, 0));
        twin.made("rule 10", k -> k.rule(10, 1, 0, 0));
        twin.made("a line of rule 0", k -> k.line(0, 0, 0, 0));
        twin.made("a line of rule 10", k -> k.line(10, 1, 0, 0));
        twin.alike("no such rule");
    }

    /** "facts a, b with s = t ..": an application that only looks like an equation is none. */
    private static void noEquations(boolean equalityFirst) {
        Twin twin = new Twin();
        if (equalityFirst) {
            twin.both(k -> k.equality(0));
        }
        int plain = twin.both(k -> Sample.assumed(k, Sample.p(k)));
        int once = twin.both(k -> Sample.assumed(k, Sample.g(k, Sample.q(k))));
        int twice = twin.both(k -> {
            int h = k.variable(0, k.arrow(0, k.arrow(0, 0)));
            return Sample.assumed(k, k.apply(k.apply(h, Sample.p(k)), Sample.q(k)));
        });
        int equation = twin.both(k -> Sample.assumed(k, Sample.equation(k, Sample.p(k), Sample.q(k))));
        int ind = twin.both(k -> k.variable(0, 1));
        int noFact = twin.both(k -> k.count(2));
        for (int none : new int[] {plain, once, twice}) {
            twin.refused("rule 3 of fact " + none, k -> k.rule(3, ind, none, 0));
            for (int other : new int[] {plain, once, twice, equation, noFact}) {
                for (int op : new int[] {1, 2, 6, 10}) {
                    twin.refused("rule " + op + " of " + none + ", " + other, k -> k.rule(op, none, other, 0));
                }
                twin.refused("rule 1 of " + other + ", " + none, k -> k.rule(1, other, none, 0));
                twin.refused("rule 2 of " + other + ", " + none, k -> k.rule(2, other, none, 0));
            }
        }
        twin.made("rule 3 of an equation", k -> k.rule(3, ind, equation, 0));
        twin.made("rule 6 of an equation", k -> k.rule(6, equation, plain, 0));
        twin.made("rule 10 of an equation", k -> k.rule(10, equation, once, 0));
    }

    /** "(Each rule makes a new one, also if there is one like it.)", but its arguments are looked at all the same. */
    private static void nothingToReplace() {
        Twin twin = new Twin();
        int q = twin.both(Sample::q);
        int fact = twin.both(k -> Sample.assumed(k, Sample.p(k)));
        int ofInd = twin.both(k -> k.variable(0, 1));
        int a = twin.both(k -> k.typeVariable(0));
        int same = twin.both(k -> k.rule(0, q, 0, 0));
        twin.refused("rule 8, c of another type", k -> k.rule(8, fact, q, ofInd));
        twin.refused("rule 8, c no term", k -> k.rule(8, fact, q, -1));
        twin.refused("rule 8, c the next number", k -> k.rule(8, fact, q, k.count(3)));
        twin.refused("rule 9, c no type", k -> k.rule(9, fact, a, -1));
        twin.refused("rule 9, c the next number", k -> k.rule(9, fact, a, k.count(4)));
        twin.refused("rule 9, b no type variable", k -> k.rule(9, fact, 1, 1));
        twin.refused("rule 10, no equation", k -> k.rule(10, fact, same, 0));
        int next = twin.both(k -> k.count(2));
        Check.is("rule 8", twin.both(k -> k.rule(8, fact, q, q)), next);
        Check.is("rule 9", twin.both(k -> k.rule(9, fact, a, 1)), next + 1);
        Check.is("rule 10", twin.both(k -> k.rule(10, same, fact, 0)), next + 2);
        for (int i = 0; i < 3; i++) {
            int made = next + i;
            Check.is("as it was", twin.both(k -> k.conclusion(made)), twin.both(k -> k.conclusion(fact)));
            Check.is("under what it was", twin.both(k -> k.hypotheses(made)), 1);
        }
        int again = twin.made("rule 0 again", k -> k.rule(0, q, 0, 0));
        Check.is("a new fact like one that is there", again, next + 3);
        Check.is("with the same conclusion", twin.both(k -> k.conclusion(again)), twin.both(k -> k.conclusion(same)));
        twin.alike("nothing to replace");
    }

    /** "it is known by that number from then on": what is in a store without a number is not known by the next one. */
    private static void numbersNotYetGiven() {
        Twin twin = new Twin();
        int fact = twin.made("a fact", k -> k.rule(0, k.variable(0, 1), 0, 0));
        int term = twin.both(k -> k.count(3));
        int type = twin.both(k -> k.count(4));
        Check.yes("terms without a number", twin.both(k -> k.count(0)) > term);
        Check.yes("types without a number", twin.both(k -> k.count(1)) > type);
        twin.refused("arrow from", k -> k.arrow(type, 0));
        twin.refused("arrow to", k -> k.arrow(0, type));
        twin.refused("variable", k -> k.variable(0, type));
        twin.refused("equality", k -> k.equality(type));
        twin.refused("apply f", k -> k.apply(term, 0));
        twin.refused("apply x", k -> k.apply(0, term));
        twin.refused("lambda x", k -> k.lambda(term, 0));
        twin.refused("lambda t", k -> k.lambda(0, term));
        twin.refused("rule 0", k -> k.rule(0, term, 0, 0));
        twin.refused("rule 5", k -> k.rule(5, term, 0, 0));
        twin.refused("rule 8", k -> k.rule(8, fact, 0, term));
        twin.refused("define", k -> k.define(term));
        twin.refused("typeOf", k -> k.typeOf(term));
        twin.refused("kind", k -> k.kind(term));
        twin.refused("part", k -> k.part(term, 0));
        twin.refused("free x", 0, k -> k.free(term, 0) ? 1 : 0);
        twin.refused("free t", 0, k -> k.free(0, term) ? 1 : 0);
        twin.refused("assumes", 0, k -> k.assumes(fact, term) ? 1 : 0);
        Check.is("the conclusion gets the next number", twin.both(k -> k.conclusion(fact)), term);
        Check.is("and is known by it", twin.both(k -> k.kind(term)), 3);
        Check.is("its part gets the one after it", twin.both(k -> k.part(term, 0)), term + 1);
        Check.is("and its type the next of the types", twin.both(k -> k.typeOf(term + 1)), type);
        Check.is("which is known by it", twin.made("arrow", k -> k.arrow(type, 0)), type + 1);
        twin.alike("numbers that are not given yet");
    }
}
