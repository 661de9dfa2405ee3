import java.util.function.ToIntFunction;

/**
 * Two objects with the same calls, but for the refused ones, which the first alone gets. What is
 * refused changes nothing, so no count and no later answer may tell the two apart.
 */
final class Twin {
    private final SequentKernel tried = new SequentKernel();
    private final SequentKernel spared = new SequentKernel();

    /** Calls that both get; their last answer. */
    int both(ToIntFunction<SequentKernel> calls) {
        int answer = calls.applyAsInt(tried);
        Check.is("the two objects", answer, calls.applyAsInt(spared));
        return answer;
    }

    /** A call that both get, and that is answered. */
    int made(String what, ToIntFunction<SequentKernel> call) {
        int answer = both(call);
        Check.yes(what + " is not refused", answer >= 0);
        return answer;
    }

    void refused(String what, ToIntFunction<SequentKernel> call) {
        refused(what, -1, call);
    }

    void refused(String what, int due, ToIntFunction<SequentKernel> call) {
        Check.is(what, call.applyAsInt(tried), due);
        sameCounts(what);
    }

    /** Asks both for all that a refused call could have left behind; some 120 calls, the last ones of the two. */
    void alike(String what) {
        sameCounts(what);
        facts(what);
        same(what + ": replay", SequentKernel::replay);
        same(what + ": clear", SequentKernel::clear);
        types(what);
        terms(what);
        definitions(what);
        facts(what);
        sameCounts(what + ": at last");
    }

    private void sameCounts(String what) {
        for (int which = 0; which <= 4; which++) {
            Check.is(what + ": count(" + which + ")", tried.count(which), spared.count(which));
        }
    }

    private void same(String what, ToIntFunction<SequentKernel> call) {
        Check.is(what, call.applyAsInt(tried), call.applyAsInt(spared));
    }

    private void facts(String what) {
        int end = spared.count(2);
        for (int fact : new int[] {0, end - 2, end - 1, end}) {
            same(what + ": conclusion(" + fact + ")", k -> k.conclusion(fact));
            same(what + ": hypotheses(" + fact + ")", k -> k.hypotheses(fact));
            for (int t = 0; t < 3; t++) {
                int term = t;
                same(what + ": assumes(" + fact + ", " + t + ")", k -> k.assumes(fact, term) ? 1 : 0);
            }
        }
    }

    private void types(String what) {
        same(what + ": arrow", k -> k.arrow(1, 0));
        for (int i = 0; i < 4; i++) {
            int v = i;
            same(what + ": typeVariable(" + i + ")", k -> k.typeVariable(v));
        }
        same(what + ": arrow of the last type", k -> k.arrow(k.count(4) - 1, 1));
    }

    private void terms(String what) {
        same(what + ": variable", k -> k.variable(0, 0));
        same(what + ": variable of the last type", k -> k.variable(7, k.count(4) - 1));
        same(what + ": equality of IND", k -> k.equality(1));
        same(what + ": apply", k -> k.apply(k.equality(0), k.variable(0, 0)));
        same(what + ": lambda", k -> k.lambda(k.variable(0, 0), k.variable(0, 0)));
        int end = spared.count(3);
        for (int t : new int[] {0, end - 2, end - 1, end}) {
            same(what + ": kind(" + t + ")", k -> k.kind(t));
            same(what + ": typeOf(" + t + ")", k -> k.typeOf(t));
            same(what + ": part(" + t + ", 0)", k -> k.part(t, 0));
            same(what + ": part(" + t + ", 1)", k -> k.part(t, 1));
        }
    }

    /** Makes constants and types until no more can be made: so many were left. */
    private void definitions(String what) {
        same(what + ": rule 5", k -> k.rule(5, k.variable(0, 0), 0, 0));
        same(what + ": define", k -> k.define(k.equality(0)));
        same(what + ": its constant", k -> k.part(k.part(k.part(k.conclusion(k.count(2) - 1), 0), 1), 0));
        same(what + ": rule 0", k -> k.rule(0, k.lambda(k.variable(0, 0), k.variable(0, 0)), 0, 0));
        int fact = spared.count(2) - 1;
        for (int i = 0; i < 4; i++) {
            same(what + ": defineType", k -> k.defineType(fact));
        }
        for (int i = 0; i < 3; i++) {
            same(what + ": define again", k -> k.define(k.equality(0)));
        }
    }
}
