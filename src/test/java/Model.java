import java.util.ArrayList;
import java.util.HashSet;
import java.util.LinkedHashSet;
import java.util.List;
import java.util.Set;
import java.util.function.Function;
import java.util.function.Supplier;

/**
 * The document written down a second time, with trees, sets and exceptions and without any sharing,
 * memory or taking back: each call works on lists of its own and hands them over when it is done.
 */
final class Model {
    interface Type { }

    record Bool() implements Type { }

    record Ind() implements Type { }

    record TypeVar(int k) implements Type { }

    record Defined(int n) implements Type { }

    record Arrow(Type from, Type to) implements Type { }

    interface Term { }

    record Var(int k, Type type) implements Term { }

    record Eq(Type of) implements Term { }

    record Const(int n, Type type) implements Term { }

    record App(Term f, Term x) implements Term { }

    record Abs(Type over, Term body) implements Term { }

    record Bound(int i, Type type) implements Term { }

    record Fact(Set<Term> hypotheses, Term conclusion) { }

    record Line(int op, int a, int b, int c) { }

    static final class Refused extends RuntimeException {
        private static final long serialVersionUID = 1L;

        Refused() {
            super(null, null, false, false);
        }
    }

    static final Type BOOL = new Bool();

    final List<Type> typeNumbers = new ArrayList<>(List.of(BOOL, new Ind()));
    final List<Term> termNumbers = new ArrayList<>();
    final List<Line> lines = new ArrayList<>();
    List<Fact> facts = new ArrayList<>();
    private Set<Type> typeStore = new HashSet<>(typeNumbers);
    private Set<Term> store = new HashSet<>();
    private int constants = 0;
    private int defined = 0;

    // What the class answers.

    int typeVariable(int k) {
        return answerType(() -> {
            need(k >= 0 && k <= 3);
            return new TypeVar(k);
        });
    }

    int arrow(int a, int b) {
        return answerType(() -> new Arrow(typeAt(a), typeAt(b)));
    }

    int variable(int k, int type) {
        return answerTerm(() -> {
            need(k >= 0 && k <= 7);
            return new Var(k, typeAt(type));
        });
    }

    int equality(int type) {
        return answerTerm(() -> new Eq(typeAt(type)));
    }

    int apply(int f, int x) {
        return answerTerm(() -> app(termAt(f), termAt(x)));
    }

    int lambda(int x, int t) {
        return answerTerm(() -> abstracted(variableAt(x), termAt(t)));
    }

    int rule(int op, int a, int b, int c) {
        try {
            Fact made = made(op, a, b, c, facts, 0, 0);
            keep(List.of(made), List.of(), facts);
            return facts.size() - 1;
        } catch (Refused r) {
            return -1;
        }
    }

    int define(int t) {
        try {
            Term meaning = termAt(t);
            needFixed(meaning);
            need(constants < 8);
            Fact made = new Fact(Set.of(), equation(new Const(constants, type(meaning)), meaning));
            keep(List.of(made), List.of(), facts);
            constants++;
            return facts.size() - 1;
        } catch (Refused r) {
            return -1;
        }
    }

    int defineType(int fact) {
        try {
            Fact from = factAt(fact, facts, 0, 0);
            need(from.hypotheses().isEmpty() && from.conclusion() instanceof App);
            App claim = (App) from.conclusion();
            needFixed(claim.f());
            need(defined < 3 && constants < 7 && facts.size() < 59);
            Type old = type(claim.x());
            Type fresh = new Defined(defined);
            Term up = new Const(constants, new Arrow(old, fresh));
            Term down = new Const(constants + 1, new Arrow(fresh, old));
            Term v = new Var(0, fresh);
            Term w = new Var(0, old);
            Fact first = new Fact(Set.of(), equation(app(up, app(down, v)), v));
            Fact second = new Fact(Set.of(),
                    equation(app(claim.f(), w), equation(app(down, app(up, w)), w)));
            keep(List.of(first, second), List.of(fresh), facts);
            defined++;
            constants += 2;
            return facts.size() - 2;
        } catch (Refused r) {
            return -1;
        }
    }

    int line(int op, int a, int b, int c) {
        if (op < 0 || op > 10 || lines.size() == 12) {
            return -1;
        }
        lines.add(new Line(op, a, b, c));
        return lines.size() - 1;
    }

    int clear() {
        int before = lines.size();
        lines.clear();
        return before;
    }

    int replay() {
        List<Fact> factsBefore = facts;
        Set<Type> typesBefore = typeStore;
        Set<Term> termsBefore = store;
        for (int i = 0; i < lines.size(); i++) {
            Line l = lines.get(i);
            try {
                Fact made = made(l.op(), l.a(), l.b(), l.c(), facts, factsBefore.size(), i);
                keep(List.of(made), List.of(), facts);
            } catch (Refused r) {
                facts = factsBefore;
                typeStore = typesBefore;
                store = termsBefore;
                return -1 - i;
            }
        }
        return lines.size();
    }

    int typeOf(int t) {
        return answerType(() -> type(termAt(t)));
    }

    int kind(int t) {
        if (t < 0 || t >= termNumbers.size()) {
            return -1;
        }
        Term term = termNumbers.get(t);
        return term instanceof Var ? 0 : term instanceof Eq ? 1 : term instanceof Const ? 2 : term instanceof App ? 3 : 4;
    }

    int part(int t, int i) {
        if (t < 0 || t >= termNumbers.size()) {
            return -1;
        }
        Term term = termNumbers.get(t);
        if (term instanceof Var v && i == 0) {
            return v.k();
        }
        if (term instanceof Const c && i == 0) {
            return c.n();
        }
        if (term instanceof App a && (i == 0 || i == 1)) {
            return answerTerm(() -> i == 0 ? a.f() : a.x());
        }
        return -1;
    }

    boolean free(int x, int t) {
        try {
            return isFree(variableAt(x), termAt(t));
        } catch (Refused r) {
            return false;
        }
    }

    int conclusion(int fact) {
        return answerTerm(() -> factAt(fact, facts, 0, 0).conclusion());
    }

    int hypotheses(int fact) {
        return fact < 0 || fact >= facts.size() ? -1 : facts.get(fact).hypotheses().size();
    }

    boolean assumes(int fact, int t) {
        try {
            return factAt(fact, facts, 0, 0).hypotheses().contains(termAt(t));
        } catch (Refused r) {
            return false;
        }
    }

    int count(int which) {
        return switch (which) {
            case 0 -> store.size();
            case 1 -> typeStore.size();
            case 2 -> facts.size();
            case 3 -> termNumbers.size();
            case 4 -> typeNumbers.size();
            default -> -1;
        };
    }

    // The rules.

    private Fact made(int op, int a, int b, int c, List<Fact> among, int start, int done) {
        Function<Integer, Fact> fact = n -> factAt(n, among, start, done);
        switch (op) {
            case 0:
                return new Fact(Set.of(), equation(termAt(a), termAt(a)));
            case 1:
                need(right(fact.apply(a)).equals(left(fact.apply(b))));
                return both(fact.apply(a), fact.apply(b), equation(left(fact.apply(a)), right(fact.apply(b))));
            case 2:
                return both(fact.apply(a), fact.apply(b), equation(
                        app(left(fact.apply(a)), left(fact.apply(b))),
                        app(right(fact.apply(a)), right(fact.apply(b)))));
            case 3:
                return abstractedFact(variableAt(a), fact.apply(b));
            case 4:
                need(termAt(a) instanceof App redex && redex.f() instanceof Abs);
                App redex = (App) termAt(a);
                return new Fact(Set.of(), equation(redex, opened(((Abs) redex.f()).body(), redex.x(), 0)));
            case 5:
                need(type(termAt(a)).equals(BOOL));
                return new Fact(Set.of(termAt(a)), termAt(a));
            case 6:
                need(left(fact.apply(a)).equals(fact.apply(b).conclusion()));
                return both(fact.apply(a), fact.apply(b), right(fact.apply(a)));
            case 7:
                return equivalence(fact.apply(a), fact.apply(b));
            case 8:
                need(type(variableAt(b)).equals(type(termAt(c))));
                return mapped(fact.apply(a), t -> replaced(t, variableAt(b), termAt(c)));
            case 9:
                need(typeAt(b) instanceof TypeVar && typeAt(c) != null);
                return mapped(fact.apply(a), t -> retyped(t, typeAt(b), typeAt(c)));
            case 10:
                return both(fact.apply(a), fact.apply(b),
                        replaced(fact.apply(b).conclusion(), left(fact.apply(a)), right(fact.apply(a))));
            default:
                throw new Refused();
        }
    }

    private static Fact abstractedFact(Var x, Fact fact) {
        for (Term h : fact.hypotheses()) {
            need(!isFree(x, h));
        }
        return new Fact(fact.hypotheses(), equation(abstracted(x, left(fact)), abstracted(x, right(fact))));
    }

    private static Fact equivalence(Fact a, Fact b) {
        Set<Term> hypotheses = new HashSet<>(a.hypotheses());
        hypotheses.remove(b.conclusion());
        Set<Term> others = new HashSet<>(b.hypotheses());
        others.remove(a.conclusion());
        hypotheses.addAll(others);
        return new Fact(hypotheses, equation(a.conclusion(), b.conclusion()));
    }

    private static Fact both(Fact a, Fact b, Term conclusion) {
        Set<Term> hypotheses = new HashSet<>(a.hypotheses());
        hypotheses.addAll(b.hypotheses());
        return new Fact(hypotheses, conclusion);
    }

    private static Fact mapped(Fact fact, Function<Term, Term> change) {
        Set<Term> hypotheses = new HashSet<>();
        for (Term h : fact.hypotheses()) {
            hypotheses.add(change.apply(h));
        }
        return new Fact(hypotheses, change.apply(fact.conclusion()));
    }

    // Terms.

    static Type type(Term t) {
        if (t instanceof Var v) {
            return v.type();
        }
        if (t instanceof Const c) {
            return c.type();
        }
        if (t instanceof Bound b) {
            return b.type();
        }
        if (t instanceof Eq e) {
            return new Arrow(e.of(), new Arrow(e.of(), BOOL));
        }
        if (t instanceof Abs a) {
            return new Arrow(a.over(), type(a.body()));
        }
        return ((Arrow) type(((App) t).f())).to();
    }

    private static Term app(Term f, Term x) {
        need(type(f) instanceof Arrow arrow && arrow.from().equals(type(x)));
        return new App(f, x);
    }

    private static Term equation(Term x, Term y) {
        return app(app(new Eq(type(x)), x), y);
    }

    static boolean isEquation(Fact fact) {
        return fact.conclusion() instanceof App whole && whole.f() instanceof App half && half.f() instanceof Eq;
    }

    static Term left(Fact fact) {
        need(isEquation(fact));
        return ((App) ((App) fact.conclusion()).f()).x();
    }

    static Term right(Fact fact) {
        left(fact);
        return ((App) fact.conclusion()).x();
    }

    private static boolean isFree(Var x, Term t) {
        return t.equals(x) || parts(t).stream().anyMatch(p -> isFree(x, p));
    }

    private static List<Term> parts(Term t) {
        return t instanceof App a ? List.of(a.f(), a.x()) : t instanceof Abs a ? List.of(a.body()) : List.of();
    }

    private static Term abstracted(Var x, Term t) {
        return new Abs(x.type(), bound(x, t, 0));
    }

    private static Term bound(Var x, Term t, int d) {
        if (t.equals(x)) {
            return new Bound(d, x.type());
        }
        if (t instanceof App a) {
            return new App(bound(x, a.f(), d), bound(x, a.x(), d));
        }
        return t instanceof Abs a ? new Abs(a.over(), bound(x, a.body(), d + 1)) : t;
    }

    private static Term opened(Term t, Term with, int d) {
        if (t instanceof Bound b && b.i() == d) {
            return with;
        }
        if (t instanceof App a) {
            return new App(opened(a.f(), with, d), opened(a.x(), with, d));
        }
        return t instanceof Abs a ? new Abs(a.over(), opened(a.body(), with, d + 1)) : t;
    }

    private static Term replaced(Term t, Term old, Term with) {
        if (t.equals(old)) {
            return with;
        }
        if (t instanceof App a) {
            return new App(replaced(a.f(), old, with), replaced(a.x(), old, with));
        }
        return t instanceof Abs a ? new Abs(a.over(), replaced(a.body(), old, with)) : t;
    }

    private static Term retyped(Term t, Type old, Type with) {
        if (t instanceof Var v) {
            return new Var(v.k(), retyped(v.type(), old, with));
        }
        if (t instanceof Const c) {
            return new Const(c.n(), retyped(c.type(), old, with));
        }
        if (t instanceof Bound b) {
            return new Bound(b.i(), retyped(b.type(), old, with));
        }
        if (t instanceof Eq e) {
            return new Eq(retyped(e.of(), old, with));
        }
        if (t instanceof Abs a) {
            return new Abs(retyped(a.over(), old, with), retyped(a.body(), old, with));
        }
        return new App(retyped(((App) t).f(), old, with), retyped(((App) t).x(), old, with));
    }

    private static Type retyped(Type a, Type old, Type with) {
        if (a.equals(old)) {
            return with;
        }
        return a instanceof Arrow w ? new Arrow(retyped(w.from(), old, with), retyped(w.to(), old, with)) : a;
    }

    // What a call looks up, and what it keeps.

    private static void need(boolean holds) {
        if (!holds) {
            throw new Refused();
        }
    }

    private static void needFixed(Term t) {
        Set<Term> all = new HashSet<>();
        termsIn(t, all);
        Set<Type> allTypes = new HashSet<>();
        for (Term part : all) {
            need(!(part instanceof Var));
            ownTypes(part, allTypes);
        }
        for (Type a : allTypes) {
            need(!(a instanceof TypeVar));
        }
    }

    private Type typeAt(int number) {
        need(number >= 0 && number < typeNumbers.size());
        return typeNumbers.get(number);
    }

    private Term termAt(int number) {
        need(number >= 0 && number < termNumbers.size());
        return termNumbers.get(number);
    }

    private Var variableAt(int number) {
        need(termAt(number) instanceof Var);
        return (Var) termAt(number);
    }

    private static Fact factAt(int n, List<Fact> among, int start, int done) {
        if (n < 0) {
            need(-1 - n < done);
            return among.get(start + (-1 - n));
        }
        need(n < among.size());
        return among.get(n);
    }

    private static void termsIn(Term t, Set<Term> into) {
        if (into.add(t)) {
            parts(t).forEach(p -> termsIn(p, into));
        }
    }

    private static void ownTypes(Term t, Set<Type> into) {
        typesIn(type(t), into);
        if (t instanceof Eq e) {
            typesIn(e.of(), into);
        }
        if (t instanceof Abs a) {
            typesIn(a.over(), into);
        }
    }

    private static void typesIn(Type a, Set<Type> into) {
        if (into.add(a) && a instanceof Arrow w) {
            typesIn(w.from(), into);
            typesIn(w.to(), into);
        }
    }

    static int height(Term t) {
        return 1 + parts(t).stream().mapToInt(Model::height).max().orElse(0);
    }

    static int height(Type a) {
        return a instanceof Arrow w ? 1 + Math.max(height(w.from()), height(w.to())) : 1;
    }

    private void keepAll(Set<Term> newTerms, Set<Type> newTypes) {
        Set<Term> terms = new HashSet<>(store);
        newTerms.forEach(t -> termsIn(t, terms));
        Set<Type> types = new HashSet<>(typeStore);
        newTypes.forEach(a -> typesIn(a, types));
        terms.forEach(t -> ownTypes(t, types));
        for (Term t : newTerms) {
            need(height(t) <= 20);
        }
        for (Type a : types) {
            need(height(a) <= 10);
        }
        need(terms.size() <= 250 && types.size() <= 50);
        store = terms;
        typeStore = types;
    }

    private void keep(List<Fact> newFacts, List<Type> newTypes, List<Fact> before) {
        Set<Term> newTerms = new LinkedHashSet<>();
        List<Fact> after = new ArrayList<>(before);
        for (Fact f : newFacts) {
            need(f.hypotheses().size() <= 12);
            newTerms.addAll(f.hypotheses());
            newTerms.add(f.conclusion());
            after.add(f);
        }
        need(after.size() <= 60);
        keepAll(newTerms, new HashSet<>(newTypes));
        facts = after;
    }

    private int answerType(Supplier<Type> call) {
        try {
            Type a = call.get();
            keepAll(Set.of(), Set.of(a));
            return number(typeNumbers, a);
        } catch (Refused r) {
            return -1;
        }
    }

    private int answerTerm(Supplier<Term> call) {
        try {
            Term t = call.get();
            keepAll(Set.of(t), Set.of());
            return number(termNumbers, t);
        } catch (Refused r) {
            return -1;
        }
    }

    private static <T> int number(List<T> numbers, T what) {
        if (!numbers.contains(what)) {
            numbers.add(what);
        }
        return numbers.indexOf(what);
    }
}
