/**
 * "What is refused changes nothing", promise by promise: each reason to refuse that the document
 * names, alone, beside the nearest call that is answered, seen in all that count() answers and in
 * what later calls answer.
 */
final class RefusalTests {
    private static final int[] FAR = {-1, -2, 250, Integer.MIN_VALUE, Integer.MAX_VALUE};
    private static final int MOST_LINES = 12;

    private RefusalTests() {
    }

    static void all() {
        types();
        variables();
        equalities();
        applications();
        abstractions();
        definitions();
        constants();
        factsForDefinitions();
        typeDefinitions();
        typeDefinitionsByCounts();
        lines();
        everyPlaceOfATrace();
        everyLineUsesTheOneBefore();
        traceThatIsEmpty();
        traceAgainAndAgain();
        questions();
        sortsAreApart();
        typeSortsAreApart(false);
        typeSortsAreApart(true);
        lastOf512Calls();
    }

    /** Promises 2 and 3. */
    private static void types() {
        Twin twin = new Twin();
        twin.refused("type variable 4", k -> k.typeVariable(4));
        for (int far : FAR) {
            twin.refused("type variable " + far, k -> k.typeVariable(far));
        }
        Check.is("type variable 3", twin.both(k -> k.typeVariable(3)), 2);
        Check.is("type variable 0", twin.both(k -> k.typeVariable(0)), 3);
        Check.is("the arrow from the last type to itself", twin.both(k -> k.arrow(3, 3)), 4);
        twin.refused("from the number after the last", k -> k.arrow(5, 0));
        twin.refused("to the number after the last", k -> k.arrow(0, 5));
        for (int far : FAR) {
            twin.refused("from " + far, k -> k.arrow(far, 0));
            twin.refused("to " + far, k -> k.arrow(0, far));
        }
        twin.alike("types");
    }

    /** Promise 4. */
    private static void variables() {
        Twin twin = new Twin();
        twin.refused("variable 8", k -> k.variable(8, 0));
        twin.refused("of the number after the last", k -> k.variable(0, 2));
        for (int far : FAR) {
            twin.refused("variable " + far, k -> k.variable(far, 0));
            twin.refused("of type " + far, k -> k.variable(0, far));
        }
        Check.is("variable 7 of BOOL", twin.both(k -> k.variable(7, 0)), 0);
        Check.is("variable 0 of IND", twin.both(k -> k.variable(0, 1)), 1);
        Check.is("variable 7 of IND", twin.both(k -> k.variable(7, 1)), 2);
        twin.refused("variable 8 again", k -> k.variable(8, 1));
        twin.alike("variables");
    }

    /** Promise 5. */
    private static void equalities() {
        Twin twin = new Twin();
        twin.refused("of the number after the last", k -> k.equality(2));
        for (int far : FAR) {
            twin.refused("of " + far, k -> k.equality(far));
        }
        Check.is("of IND", twin.both(k -> k.equality(1)), 0);
        Check.is("types", twin.both(k -> k.count(1)), 4);
        twin.refused("of a type without a number", k -> k.equality(2));
        twin.alike("equalities");
    }

    /** Promise 6: "there is no such application". */
    private static void applications() {
        Twin twin = new Twin();
        int f = twin.both(k -> k.variable(0, k.arrow(0, 1)));
        int p = twin.both(Sample::p);
        int v = twin.both(k -> k.variable(0, 1));
        int more = twin.both(k -> k.variable(0, k.arrow(k.arrow(0, 1), 0)));
        twin.refused("f is of no arrow", k -> k.apply(p, p));
        twin.refused("x is of another type", k -> k.apply(f, v));
        twin.refused("x is of the type that the arrow goes to", k -> k.apply(more, p));
        twin.refused("f of itself", k -> k.apply(f, f));
        twin.refused("x and f the other way round", k -> k.apply(p, f));
        for (int far : FAR) {
            twin.refused("f is " + far, k -> k.apply(far, p));
            twin.refused("x is " + far, k -> k.apply(f, far));
        }
        twin.refused("x is the number after the last", k -> k.apply(f, 4));
        int made = twin.made("f p", k -> k.apply(f, p));
        Check.is("f p", made, 4);
        Check.is("of IND", twin.both(k -> k.typeOf(made)), 1);
        twin.made("more f", k -> k.apply(more, f));
        twin.alike("applications");
    }

    /** Promise 7: "x is no variable". */
    private static void abstractions() {
        Twin twin = new Twin();
        int p = twin.both(Sample::p);
        int equality = twin.both(k -> k.equality(0));
        int half = twin.both(k -> k.apply(equality, p));
        int overP = twin.made("over p", k -> k.lambda(p, half));
        int constant = twin.both(k -> k.part(k.part(k.conclusion(k.define(equality)), 0), 1));
        Check.is("a constant", twin.both(k -> k.kind(constant)), 2);
        for (int none : new int[] {equality, half, overP, constant}) {
            twin.refused("over term " + none, k -> k.lambda(none, p));
        }
        for (int far : FAR) {
            twin.refused("over " + far, k -> k.lambda(far, p));
            twin.refused("of " + far, k -> k.lambda(p, far));
        }
        twin.alike("abstractions");
    }

    /** Promise 9, but for its counts: a free variable, or a type variable in a type of it or of a part. */
    private static void definitions() {
        Twin twin = new Twin();
        int p = twin.both(Sample::p);
        int general = twin.both(k -> k.variable(0, k.typeVariable(0)));
        twin.refused("a variable", k -> k.define(p));
        int oneFree = twin.both(k -> k.lambda(p, Sample.q(k)));
        twin.refused("one that is free under an abstraction", k -> k.define(oneFree));
        int generalEquality = twin.both(k -> k.equality(k.typeOf(general)));
        twin.refused("the A of an equality", k -> k.define(generalEquality));
        int generalIdentity = twin.both(k -> k.lambda(general, general));
        twin.refused("the A of an abstraction", k -> k.define(generalIdentity));
        int bodyAlone = twin.both(k -> k.lambda(general, k.lambda(p, p)));
        twin.refused("the A of an abstraction whose body has none", k -> k.define(bodyAlone));
        int partAlone = twin.both(k -> {
            int about = k.variable(0, k.typeOf(generalIdentity));
            return k.apply(k.lambda(about, k.lambda(p, p)), generalIdentity);
        });
        twin.refused("the type of a part alone", k -> k.define(partAlone));
        for (int far : FAR) {
            twin.refused("define(" + far + ")", k -> k.define(far));
        }
        int next = twin.both(k -> k.count(3));
        twin.refused("the number after the last", k -> k.define(next));
        twin.made("without any", k -> k.define(k.lambda(p, k.lambda(p, p))));
        twin.alike("definitions");
    }

    private static void constants() {
        Twin twin = new Twin();
        int equality = twin.both(k -> k.equality(0));
        for (int i = 0; i < 8; i++) {
            int due = i;
            Check.is("the fact of constant " + i, twin.both(k -> k.define(equality)), i);
            Check.is("constant " + i, twin.both(k -> k.part(k.part(k.part(k.conclusion(due), 0), 1), 0)), i);
        }
        twin.refused("a ninth constant", k -> k.define(equality));
        twin.refused("a ninth constant of another term", k -> k.define(k.part(k.part(k.conclusion(7), 0), 1)));
        twin.alike("nine constants");
    }

    /** "60 facts are there", and for defineType 59 or more. */
    private static void factsForDefinitions() {
        for (int facts = 57; facts <= 60; facts++) {
            int wanted = facts;
            Twin twin = new Twin();
            int equality = twin.both(k -> k.equality(0));
            int identity = twin.both(k -> k.lambda(Sample.p(k), Sample.p(k)));
            twin.both(k -> {
                for (int i = 0; i < wanted; i++) {
                    k.rule(0, identity, 0, 0);
                }
                return k.count(2);
            });
            if (facts >= 59) {
                twin.refused("defineType with " + facts + " facts", k -> k.defineType(0));
            }
            if (facts == 60) {
                twin.refused("define with 60 facts", k -> k.define(equality));
                twin.refused("rule 5 with 60 facts", k -> k.rule(5, 0, 0, 0));
            }
            Check.is("define with " + facts + " facts", twin.both(k -> k.define(equality)), facts == 60 ? -1 : facts);
            twin.alike("definitions with " + facts + " facts");
        }
    }

    private static int identityFact(SequentKernel k) {
        return k.rule(0, k.lambda(Sample.p(k), Sample.p(k)), 0, 0);
    }

    /** Promise 10, but for its counts: "there is no such fact, it is not as said". */
    private static void typeDefinitions() {
        Twin twin = new Twin();
        int p = twin.both(Sample::p);
        int general = twin.both(k -> k.variable(0, k.typeVariable(0)));
        int good = twin.made("a fact", RefusalTests::identityFact);
        int variable = twin.both(k -> k.rule(5, p, 0, 0));
        twin.refused("a conclusion that is no application", k -> k.defineType(variable));
        int assumed = twin.both(k -> k.rule(5, k.conclusion(good), 0, 0));
        twin.refused("a hypothesis", k -> k.defineType(assumed));
        int freeInP = twin.both(k -> k.rule(0, p, 0, 0));
        twin.refused("a variable that is free in P", k -> k.defineType(freeInP));
        int generalP = twin.both(k -> k.rule(0, k.lambda(general, general), 0, 0));
        twin.refused("a type variable in P", k -> k.defineType(generalP));
        for (int far : FAR) {
            twin.refused("defineType(" + far + ")", k -> k.defineType(far));
        }
        int next = twin.both(k -> k.count(2));
        twin.refused("the number after the last", k -> k.defineType(next));
        twin.both(k -> k.line(0, p, 0, 0));
        twin.both(SequentKernel::replay);
        twin.refused("a line of the trace", k -> k.defineType(-1));
        Check.is("as said", twin.both(k -> k.defineType(good)), next + 1);
        twin.alike("definitions of types");
    }

    /** "3 types are defined, 7 or more constants .. are there". */
    private static void typeDefinitionsByCounts() {
        for (int before = 0; before <= 8; before++) {
            int constants = before;
            Twin twin = new Twin();
            int fact = twin.both(RefusalTests::identityFact);
            twin.both(k -> {
                for (int i = 0; i < constants; i++) {
                    k.define(k.equality(0));
                }
                return k.count(2);
            });
            int room = Math.min(3, (8 - before) / 2);
            for (int i = 0; i < room; i++) {
                Check.is("type " + i + " after " + before + " constants", twin.both(k -> k.defineType(fact)),
                        1 + before + 2 * i);
            }
            twin.refused("one more type after " + before + " constants", k -> k.defineType(fact));
            int left = 8 - before - 2 * room;
            for (int i = 0; i < left; i++) {
                Check.is("constants left", twin.both(k -> k.define(k.equality(0))), 1 + before + 2 * room + i);
            }
            twin.refused("no constant left", k -> k.define(k.equality(0)));
            twin.alike("types after " + before + " constants");
        }
    }

    /** Promises 11 and 12. */
    private static void lines() {
        Twin twin = new Twin();
        twin.both(Sample::p);
        Check.is("clear of no lines", twin.both(SequentKernel::clear), 0);
        for (int i = 0; i < MOST_LINES; i++) {
            twin.refused("rule 11", k -> k.line(11, 0, 0, 0));
            twin.refused("rule -1", k -> k.line(-1, 0, 0, 0));
            Check.is("line " + i, twin.both(k -> k.line(5, 0, 0, 0)), i);
        }
        twin.refused("a thirteenth", k -> k.line(5, 0, 0, 0));
        twin.refused("a thirteenth of another rule", k -> k.line(0, 0, 0, 0));
        Check.is("twelve are replayed", twin.both(SequentKernel::replay), MOST_LINES);
        Check.is("twelve facts", twin.both(k -> k.count(2)), MOST_LINES);
        Check.is("all by rule 5", twin.both(k -> k.hypotheses(MOST_LINES - 1)), 1);
        twin.refused("a thirteenth after the replay", k -> k.line(5, 0, 0, 0));
        Check.is("clear of twelve", twin.both(SequentKernel::clear), MOST_LINES);
        Check.is("clear again", twin.both(SequentKernel::clear), 0);
        Check.is("the first place again", twin.both(k -> k.line(10, -1, -1, -1)), 0);
        twin.refused("a line that is only now looked at", -1, SequentKernel::replay);
        Check.is("it stays", twin.both(SequentKernel::clear), 1);
        twin.alike("lines");
    }

    /** Line i that makes a fact, and for some i terms and types that were not there. */
    private static int goodLine(SequentKernel k, int i) {
        switch (i % 4) {
            case 0: return k.line(0, k.variable(i % 8, 1), 7, 7);
            case 1: return k.line(3, Sample.p(k), -i, 7);
            case 2: return k.line(8, 0, Sample.p(k), Sample.g(k, Sample.g(k, Sample.p(k))));
            default: return k.line(7, -i, 0, 7);
        }
    }

    private static void everyPlaceOfATrace() {
        for (int at = 0; at < MOST_LINES; at++) {
            int place = at;
            Twin twin = new Twin();
            twin.both(k -> Sample.assumed(k, Sample.g(k, Sample.p(k))));
            twin.both(k -> {
                for (int i = 0; i < MOST_LINES; i++) {
                    int added = i == place ? k.line(6, 0, 0, 0) : goodLine(k, i);
                    Check.is("line " + i, added, i);
                }
                return k.count(0);
            });
            twin.refused("line " + at + " is refused", -1 - at, SequentKernel::replay);
            twin.refused("and again", -1 - at, SequentKernel::replay);
            twin.alike("a trace with line " + at + " refused");
        }
        Twin fine = new Twin();
        fine.both(k -> Sample.assumed(k, Sample.g(k, Sample.p(k))));
        for (int i = 0; i < MOST_LINES; i++) {
            int number = i;
            fine.both(k -> goodLine(k, number));
        }
        int terms = fine.both(k -> k.count(0));
        Check.is("no line is refused", fine.both(SequentKernel::replay), MOST_LINES);
        Check.is("twelve facts more", fine.both(k -> k.count(2)), 1 + MOST_LINES);
        Check.yes("terms were made", fine.both(k -> k.count(0)) > terms);
    }

    /** "-1 - j stands for the fact that line j has just made", for each j that there can be. */
    private static void everyLineUsesTheOneBefore() {
        SequentKernel k = new SequentKernel();
        int p = Sample.p(k);
        k.line(5, p, 0, 0);
        for (int j = 0; j < MOST_LINES - 1; j++) {
            k.line(8, -1 - j, p, k.variable(1 + j % 7, 0));
            p = k.variable(1 + j % 7, 0);
        }
        Check.is("twelve lines", k.replay(), MOST_LINES);
        for (int i = 1; i < MOST_LINES; i++) {
            Check.is("the conclusion of line " + i, k.conclusion(i), k.variable(1 + (i - 1) % 7, 0));
            Check.yes("its hypothesis", k.assumes(i, k.conclusion(i)));
        }
        for (int j = 0; j < MOST_LINES - 1; j++) {
            SequentKernel fresh = new SequentKernel();
            for (int i = 0; i < MOST_LINES - 1; i++) {
                fresh.line(5, fresh.variable(i % 8, 0), 0, 0);
            }
            fresh.line(7, -1 - j, -1 - j, 0);
            Check.is("line 11 uses line " + j, fresh.replay(), MOST_LINES);
            Check.is("line " + j, fresh.part(fresh.conclusion(11), 1), fresh.variable(j % 8, 0));
        }
    }

    private static void traceThatIsEmpty() {
        Twin twin = new Twin();
        Check.is("no lines", twin.both(SequentKernel::replay), 0);
        twin.both(k -> {
            for (int i = 0; i < 60; i++) {
                k.rule(5, Sample.p(k), 0, 0);
            }
            return k.count(2);
        });
        Check.is("no lines, and 60 facts", twin.both(SequentKernel::replay), 0);
        twin.both(k -> k.line(5, 0, 0, 0));
        twin.refused("a line, and 60 facts", -1, SequentKernel::replay);
        Check.is("the line stays", twin.both(SequentKernel::clear), 1);
        twin.alike("an empty trace");
    }

    /** Twelve lines five times make 60 facts; a sixth time is refused at its first line. */
    private static void traceAgainAndAgain() {
        Twin twin = new Twin();
        twin.both(Sample::p);
        for (int i = 0; i < MOST_LINES; i++) {
            twin.both(k -> k.line(5, 0, 0, 0));
        }
        for (int i = 1; i <= 5; i++) {
            Check.is("replayed", twin.both(SequentKernel::replay), MOST_LINES);
            Check.is("facts", twin.both(k -> k.count(2)), MOST_LINES * i);
        }
        twin.refused("a sixth time", -1, SequentKernel::replay);
        twin.alike("a trace again and again");
        Twin shifted = new Twin();
        shifted.both(k -> k.rule(5, Sample.p(k), 0, 0));
        for (int i = 0; i < MOST_LINES; i++) {
            shifted.both(k -> k.line(5, 0, 0, 0));
        }
        for (int i = 1; i <= 4; i++) {
            Check.is("replayed", shifted.both(SequentKernel::replay), MOST_LINES);
        }
        shifted.refused("49 facts: the last line is one too many", -MOST_LINES, SequentKernel::replay);
        Check.is("49 facts", shifted.both(k -> k.count(2)), 49);
        shifted.alike("a trace with its last line refused");
    }

    /** Promises 14 to 21: a question that is answered by -1 or by false changes nothing, either. */
    private static void questions() {
        Twin twin = new Twin();
        int p = twin.both(Sample::p);
        int fact = twin.both(k -> k.rule(5, p, 0, 0));
        int nextTerm = twin.both(k -> k.count(3));
        int nextFact = twin.both(k -> k.count(2));
        for (int none : new int[] {nextTerm, -1, -2, 250, Integer.MIN_VALUE, Integer.MAX_VALUE}) {
            twin.refused("typeOf " + none, k -> k.typeOf(none));
            twin.refused("kind " + none, k -> k.kind(none));
            twin.refused("part of " + none, k -> k.part(none, 0));
            twin.refused("free x " + none, 0, k -> k.free(none, p) ? 1 : 0);
            twin.refused("free t " + none, 0, k -> k.free(p, none) ? 1 : 0);
            twin.refused("assumes " + none, 0, k -> k.assumes(fact, none) ? 1 : 0);
        }
        for (int none : new int[] {nextFact, -1, -2, 60, Integer.MIN_VALUE, Integer.MAX_VALUE}) {
            twin.refused("conclusion " + none, k -> k.conclusion(none));
            twin.refused("hypotheses " + none, k -> k.hypotheses(none));
            twin.refused("assumes by " + none, 0, k -> k.assumes(none, p) ? 1 : 0);
        }
        for (int none : new int[] {-1, 5, 6, Integer.MIN_VALUE, Integer.MAX_VALUE}) {
            twin.refused("count " + none, k -> k.count(none));
        }
        for (int none : new int[] {-1, 1, 2, Integer.MIN_VALUE, Integer.MAX_VALUE}) {
            twin.refused("part " + none + " of a variable", k -> k.part(p, none));
        }
        twin.alike("questions");
    }

    /** "the same one if they are of one sort": a variable, a constant and a bound with one number and type are three. */
    private static void sortsAreApart() {
        SequentKernel k = new SequentKernel();
        int p = Sample.p(k);
        int identity = k.lambda(p, p);
        Check.is("variable 0, bound 0, the abstraction", k.count(0), 3);
        int closed = Sample.equation(k, identity, identity);
        int terms = k.count(0);
        k.define(closed);
        Check.is("constant 0, =, (= constant 0), the equation", k.count(0), terms + 4);
        int constant = k.part(k.part(k.conclusion(0), 0), 1);
        Check.is("of BOOL, as the variable", k.typeOf(constant), k.typeOf(p));
        Check.is("with its number", k.part(constant, 0), k.part(p, 0));
        Check.no("it is not free", k.free(constant, constant));
        Check.no("the variable is not in it", k.free(p, constant));
        Check.is("rule 8 leaves it", k.conclusion(k.rule(8, k.rule(5, constant, 0, 0), p, closed)), constant);
        Check.yes("the abstraction over p of it is no identity", k.lambda(p, constant) != identity);
        int ofInd = k.variable(0, 1);
        Check.yes("nor is that of IND", k.lambda(ofInd, ofInd) != identity);
    }

    /** Type variable 0 and the first defined type are two, whichever is there first. */
    private static void typeSortsAreApart(boolean variableFirst) {
        Twin twin = new Twin();
        if (variableFirst) {
            twin.both(k -> k.typeVariable(0));
        }
        int fact = twin.both(RefusalTests::identityFact);
        int types = twin.both(k -> k.count(1));
        int first = twin.made("a type", k -> k.defineType(fact));
        Check.is("T, its arrows, and those of its equality and of that of BOOL",
                twin.both(k -> k.count(1)), types + 6);
        int v = twin.both(k -> k.part(k.conclusion(first), 1));
        int defined = twin.both(k -> k.typeOf(v));
        Check.no("type variable 0", twin.both(k -> k.typeVariable(0)) == defined);
        twin.refused("T is no type variable", k -> k.rule(9, first, defined, 1));
        int kept = twin.made("T stays", k -> k.rule(9, first, k.typeVariable(0), 1));
        Check.is("T stays", twin.both(k -> k.conclusion(kept)), twin.both(k -> k.conclusion(first)));
        int overT = twin.both(k -> k.lambda(v, v));
        twin.made("no type variable is in a term over T", k -> k.define(overT));
        int second = twin.made("a type from T", k -> k.defineType(k.rule(0, overT, 0, 0)));
        int other = twin.both(k -> k.typeOf(k.part(k.conclusion(second), 1)));
        Check.no("another one", other == defined);
        twin.alike("sorts of types");
    }

    /** "An object is used for at most 512 calls": up to the last one every answer is due. */
    private static void lastOf512Calls() {
        SequentKernel k = new SequentKernel();
        int calls = 0;
        for (int i = 0; i < 39; i++) {
            for (int line = 0; line < MOST_LINES; line++) {
                Check.is("call " + calls, k.line(line % 11, i, i, i), line);
                calls++;
            }
            Check.is("call " + calls, k.clear(), MOST_LINES);
            calls++;
        }
        Check.is("so far", calls, 507);
        Check.is("call 508", k.variable(0, 0), 0);
        Check.is("call 509", k.rule(0, 0, 0, 0), 0);
        Check.is("call 510", k.conclusion(0), 1);
        Check.is("call 511", k.line(5, 1, 0, 0), 0);
        Check.is("call 512", k.replay(), 1);
    }
}
