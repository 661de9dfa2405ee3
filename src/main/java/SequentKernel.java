import java.util.Arrays;

/**
 * A kernel for higher-order logic: simple types, terms with bound variables, facts that only the
 * rules and the definitions can make, and traces of rules that are replayed whole or not at all.
 *
 * <p>NONE stands for a refusal everywhere: whatever makes a type, a term or a fact answers it when
 * it cannot, and also when it is handed one, so that a call looks for a refusal once, at its end.
 * A PLACE is where a type or term stands in its store; a NUMBER is what the caller knows it by.
 */
public final class SequentKernel {
    private static final int NONE = -1;
    private static final int VARIABLES = 8;
    private static final int TYPE_VARIABLES = 4;
    private static final int MOST_CONSTANTS = 8;
    private static final int MOST_DEFINED_TYPES = 3;

    private final Types types;
    private final Terms terms;
    private final Facts facts;
    private final Change change;
    private final Rules rules;
    private final Trace trace;
    private int constants;
    private int definedTypes;

    public SequentKernel() {
        types = new Types();
        terms = new Terms(types);
        facts = new Facts();
        change = new Change(types, terms);
        rules = new Rules(types, terms, facts, change);
        trace = new Trace();
    }

    public int typeVariable(int k) {
        if (k < 0 || k >= TYPE_VARIABLES) {
            return NONE;
        }
        return answeredType(types.store(Types.VARIABLE, k, 0));
    }

    public int arrow(int a, int b) {
        return answeredType(types.store(Types.ARROW, types.numbers.placeOf(a), types.numbers.placeOf(b)));
    }

    public int variable(int k, int type) {
        if (k < 0 || k >= VARIABLES) {
            return NONE;
        }
        return answeredTerm(terms.store(Terms.VARIABLE, k, 0, types.numbers.placeOf(type)));
    }

    public int equality(int type) {
        return answeredTerm(terms.equalityOf(types.numbers.placeOf(type)));
    }

    public int apply(int f, int x) {
        return answeredTerm(terms.application(terms.numbers.placeOf(f), terms.numbers.placeOf(x)));
    }

    public int lambda(int x, int t) {
        return answeredTerm(change.abstracted(terms.numbers.placeOf(x), terms.numbers.placeOf(t)));
    }

    public int rule(int op, int a, int b, int c) {
        rules.refer(0, 0);
        return settled(rules.make(op, a, b, c));
    }

    public int define(int t) {
        int place = terms.numbers.placeOf(t);
        if (!terms.isFixed(place) || constants >= MOST_CONSTANTS) {
            return NONE;
        }
        int constant = terms.store(Terms.CONSTANT, constants, 0, terms.typeAt(place));
        facts.open();
        int made = settled(facts.close(terms.equation(constant, place)));
        if (made >= 0) {
            constants++;
        }
        return made;
    }

    public int defineType(int fact) {
        int claim = facts.conclusionOf(fact);
        int predicate = terms.functionOf(claim);
        if (!terms.isFixed(predicate) || facts.sizeOf(fact) != 0
                || definedTypes >= MOST_DEFINED_TYPES || constants + 2 > MOST_CONSTANTS) {
            return NONE;
        }
        int made = settled(newTypeFacts(predicate, terms.typeAt(terms.argumentOf(claim))));
        if (made >= 0) {
            definedTypes++;
            constants += 2;
        }
        return made;
    }

    public int line(int op, int a, int b, int c) {
        return rules.has(op) ? trace.add(op, a, b, c) : NONE;
    }

    public int clear() {
        return trace.empty();
    }

    public int replay() {
        int start = facts.size();
        for (int i = 0; i < trace.size(); i++) {
            rules.refer(start, i);
            if (rules.make(trace.op[i], trace.a[i], trace.b[i], trace.c[i]) < 0) {
                settled(NONE);
                return -1 - i;
            }
        }
        return settled(trace.size());
    }

    public int typeOf(int t) {
        return types.numbers.numberOf(terms.typeAt(terms.numbers.placeOf(t)));
    }

    public int kind(int t) {
        return terms.sortAt(terms.numbers.placeOf(t));
    }

    public int part(int t, int i) {
        int place = terms.numbers.placeOf(t);
        switch (terms.sortAt(place)) {
            case Terms.VARIABLE:
            case Terms.CONSTANT:
                return i == 0 ? terms.first[place] : NONE;
            case Terms.APPLICATION:
                if (i == 0) {
                    return terms.numbers.numberOf(terms.first[place]);
                }
                return i == 1 ? terms.numbers.numberOf(terms.second[place]) : NONE;
            default:
                return NONE;
        }
    }

    public boolean free(int x, int t) {
        int variable = terms.numbers.placeOf(x);
        int place = terms.numbers.placeOf(t);
        if (terms.sortAt(variable) != Terms.VARIABLE || place < 0) {
            return false;
        }
        terms.mark(variable);
        return terms.marked[place];
    }

    public int conclusion(int fact) {
        return terms.numbers.numberOf(facts.conclusionOf(fact));
    }

    public int hypotheses(int fact) {
        return facts.sizeOf(fact);
    }

    public boolean assumes(int fact, int t) {
        return facts.has(fact, terms.numbers.placeOf(t));
    }

    public int count(int which) {
        switch (which) {
            case 0: return terms.size();
            case 1: return types.size();
            case 2: return facts.size();
            case 3: return terms.numbers.size();
            case 4: return types.numbers.size();
            default: return NONE;
        }
    }

    /** The two facts of a new type that stands for what the predicate holds of in the old type; the first one. */
    private int newTypeFacts(int predicate, int old) {
        int fresh = types.store(Types.DEFINED, definedTypes, 0);
        int up = terms.store(Terms.CONSTANT, constants, 0, types.store(Types.ARROW, old, fresh));
        int down = terms.store(Terms.CONSTANT, constants + 1, 0, types.store(Types.ARROW, fresh, old));
        int v = terms.store(Terms.VARIABLE, 0, 0, fresh);
        int w = terms.store(Terms.VARIABLE, 0, 0, old);
        int upAgain = terms.equation(terms.application(up, terms.application(down, v)), v);
        int downAgain = terms.equation(terms.application(down, terms.application(up, w)), w);
        facts.open();
        int made = facts.close(upAgain);
        int second = facts.close(terms.equation(terms.application(predicate, w), downAgain));
        return second < 0 ? NONE : made;
    }

    private int answeredType(int place) {
        return types.numbers.numberOf(settled(place));
    }

    private int answeredTerm(int place) {
        return terms.numbers.numberOf(settled(place));
    }

    /** Every call that makes something ends here: a refusal takes back all that was made since the last such end. */
    private int settled(int made) {
        types.settle(made >= 0);
        terms.settle(made >= 0);
        facts.settle(made >= 0);
        return made;
    }

    /** The numbers that a store's places have got, in the order in which they were answered. */
    private static final class Numbers {
        private final int[] place;
        private final int[] number;
        private int count;

        Numbers(int limit) {
            place = new int[limit];
            number = new int[limit];
            Arrays.fill(number, NONE);
        }

        int size() {
            return count;
        }

        int placeOf(int known) {
            return known >= 0 && known < count ? place[known] : NONE;
        }

        int numberOf(int at) {
            if (at < 0 || at >= number.length) {
                return NONE;
            }
            if (number[at] < 0) {
                place[count] = at;
                number[at] = count;
                count++;
            }
            return number[at];
        }
    }

    /** The type store. Parts stand before what they are parts of. */
    private static final class Types {
        static final int LIMIT = 50;
        static final int HIGHEST = 10;
        static final int BOOL = 0;
        static final int GROUND = 0;
        static final int VARIABLE = 1;
        static final int DEFINED = 2;
        static final int ARROW = 3;

        final Numbers numbers = new Numbers(LIMIT);
        final int[] sort = new int[LIMIT];
        /** The parts of an arrow; of the other sorts, first is which one it is. */
        final int[] first = new int[LIMIT];
        final int[] second = new int[LIMIT];
        /** Whether a type variable stands in it. */
        final boolean[] general = new boolean[LIMIT];
        private final int[] height = new int[LIMIT];
        private int count;
        private int kept;

        Types() {
            numbers.numberOf(store(GROUND, 0, 0));
            numbers.numberOf(store(GROUND, 1, 0));
            kept = count;
        }

        int size() {
            return count;
        }

        void settle(boolean keep) {
            if (keep) {
                kept = count;
            } else {
                count = kept;
            }
        }

        boolean isVariable(int a) {
            return a >= 0 && sort[a] == VARIABLE;
        }

        boolean isArrowFrom(int a, int from) {
            return sort[a] == ARROW && first[a] == from;
        }

        int store(int newSort, int newFirst, int newSecond) {
            if (newFirst < 0 || newSecond < 0) {
                return NONE;
            }
            for (int a = 0; a < count; a++) {
                if (sort[a] == newSort && first[a] == newFirst && second[a] == newSecond) {
                    return a;
                }
            }
            boolean parts = newSort == ARROW;
            int newHeight = parts ? 1 + Math.max(height[newFirst], height[newSecond]) : 1;
            if (newHeight > HIGHEST || count >= LIMIT) {
                return NONE;
            }
            sort[count] = newSort;
            first[count] = newFirst;
            second[count] = newSecond;
            height[count] = newHeight;
            general[count] = newSort == VARIABLE || (parts && (general[newFirst] || general[newSecond]));
            return count++;
        }
    }

    /** The store of the terms, bodies and bounds among them. Parts stand before what they are parts of. */
    private static final class Terms {
        static final int LIMIT = 250;
        static final int HIGHEST = 20;
        /** The first five are also what kind() answers. */
        static final int VARIABLE = 0;
        static final int EQUALITY = 1;
        static final int CONSTANT = 2;
        static final int APPLICATION = 3;
        static final int ABSTRACTION = 4;
        static final int BOUND = 5;
        private static final int BUCKETS = 64;

        final Numbers numbers = new Numbers(LIMIT);
        final int[] sort = new int[LIMIT];
        /** An abstraction has its body as first and as second, so that all that has parts is gone through alike. */
        final int[] first = new int[LIMIT];
        final int[] second = new int[LIMIT];
        final int[] type = new int[LIMIT];
        /** Whether a type variable stands in its type or in that of a part. */
        final boolean[] general = new boolean[LIMIT];
        /** Whether what mark() was last asked about stands in it. */
        final boolean[] marked = new boolean[LIMIT];
        private final boolean[] anyFree = new boolean[LIMIT];
        private final int[] height = new int[LIMIT];
        /** Each bucket is a chain from its newest term to ever older ones, so the newest can be taken back. */
        private final int[] newest = new int[BUCKETS];
        private final int[] older = new int[LIMIT];
        private final int[] bucket = new int[LIMIT];
        private final Types types;
        private int count;
        private int kept;

        Terms(Types types) {
            this.types = types;
            Arrays.fill(newest, NONE);
        }

        int size() {
            return count;
        }

        void settle(boolean keep) {
            if (keep) {
                kept = count;
            }
            while (count > kept) {
                count--;
                newest[bucket[count]] = older[count];
            }
        }

        int sortAt(int t) {
            return t < 0 ? NONE : sort[t];
        }

        int typeAt(int t) {
            return t < 0 ? NONE : type[t];
        }

        int functionOf(int t) {
            return sortAt(t) == APPLICATION ? first[t] : NONE;
        }

        int argumentOf(int t) {
            return sortAt(t) == APPLICATION ? second[t] : NONE;
        }

        /** The left side of an equation; NONE of all else. */
        int leftOf(int t) {
            int function = functionOf(t);
            return sortAt(functionOf(function)) == EQUALITY ? second[function] : NONE;
        }

        /** Whether neither a variable nor a type variable could change it. */
        boolean isFixed(int t) {
            return t >= 0 && !anyFree[t] && !general[t];
        }

        boolean hasParts(int t) {
            return sort[t] == APPLICATION || sort[t] == ABSTRACTION;
        }

        /** Finds, once for each term of the store, whether x stands in it. */
        void mark(int x) {
            for (int t = 0; t < count; t++) {
                marked[t] = t == x || (hasParts(t) && (marked[first[t]] || marked[second[t]]));
            }
        }

        int equalityOf(int a) {
            int toBool = types.store(Types.ARROW, a, Types.BOOL);
            return store(EQUALITY, 0, 0, types.store(Types.ARROW, a, toBool));
        }

        int application(int f, int x) {
            if (f < 0 || x < 0 || !types.isArrowFrom(type[f], type[x])) {
                return NONE;
            }
            return store(APPLICATION, f, x, types.second[type[f]]);
        }

        int abstraction(int over, int body) {
            if (body < 0) {
                return NONE;
            }
            return store(ABSTRACTION, body, body, types.store(Types.ARROW, over, type[body]));
        }

        int equation(int x, int y) {
            return application(application(equalityOf(typeAt(x)), x), y);
        }

        int store(int newSort, int newFirst, int newSecond, int newType) {
            if (newType < 0) {
                return NONE;
            }
            int home = (newSort + 5 * newFirst + 23 * newSecond + 11 * newType) & (BUCKETS - 1);
            int t = newest[home];
            for (int steps = 0; t >= 0 && steps < LIMIT; steps++) {
                if (sort[t] == newSort && first[t] == newFirst && second[t] == newSecond && type[t] == newType) {
                    return t;
                }
                t = older[t];
            }
            boolean parts = newSort == APPLICATION || newSort == ABSTRACTION;
            int newHeight = parts ? 1 + Math.max(height[newFirst], height[newSecond]) : 1;
            if (newHeight > HIGHEST || count >= LIMIT) {
                return NONE;
            }
            sort[count] = newSort;
            first[count] = newFirst;
            second[count] = newSecond;
            type[count] = newType;
            height[count] = newHeight;
            anyFree[count] = newSort == VARIABLE || (parts && (anyFree[newFirst] || anyFree[newSecond]));
            general[count] = types.general[newType] || (parts && (general[newFirst] || general[newSecond]));
            bucket[count] = home;
            older[count] = newest[home];
            newest[home] = count;
            return count++;
        }
    }

    /**
     * Makes terms from terms by one change in each place that it is for. Terms share their parts, so
     * a term with few parts in the store can have a million places: each part is changed once for
     * each number of abstractions that it stands under, and then remembered for that turn.
     */
    private static final class Change {
        /** The term old becomes the term put; what is put in is not gone into. */
        static final int REPLACE = 0;
        /** The type old becomes the type put, in all types. */
        static final int RETYPE = 1;
        private static final int ABSTRACT = 2;
        private static final int OPEN = 3;
        /** A memory holds the turn above these bits and the place below: both stores' places fit. */
        private static final int PLACE_BITS = 8;
        private static final int PLACE_MASK = (1 << PLACE_BITS) - 1;

        private final Types types;
        private final Terms terms;
        private final int[] termMemory = new int[Terms.HIGHEST * Terms.LIMIT];
        private final int[] typeMemory = new int[Types.LIMIT];
        private int turn;
        private int way;
        private int old;
        private int put;

        Change(Types types, Terms terms) {
            this.types = types;
            this.terms = terms;
        }

        void begin(int newWay, int newOld, int newPut) {
            turn++;
            way = newWay;
            old = newOld;
            put = newPut;
        }

        int abstracted(int x, int t) {
            if (terms.sortAt(x) != Terms.VARIABLE) {
                return NONE;
            }
            begin(ABSTRACT, x, NONE);
            return terms.abstraction(terms.type[x], changed(t, 0, 0));
        }

        int opened(int abstraction, int with) {
            begin(OPEN, NONE, with);
            return changed(terms.first[abstraction], 0, 0);
        }

        /** The whole term t with the change that has begun. */
        int of(int t) {
            return changed(t, 0, 0);
        }

        /** Term t, which stands under so many abstractions, level parts deep, with the change. */
        private int changed(int t, int under, int level) {
            if (t < 0 || under > level || level >= Terms.HIGHEST) {
                return NONE;
            }
            int key = under * Terms.LIMIT + t;
            if (termMemory[key] >> PLACE_BITS == turn) {
                return termMemory[key] & PLACE_MASK;
            }
            int made = madeAnew(t, under, level);
            if (made >= 0) {
                termMemory[key] = turn << PLACE_BITS | made;
            }
            return made;
        }

        private int madeAnew(int t, int under, int level) {
            if (way == RETYPE && !terms.general[t]) {
                return t;
            }
            if (stands(t, under)) {
                return way == ABSTRACT ? terms.store(Terms.BOUND, under, 0, terms.type[t]) : put;
            }
            if (terms.sort[t] == Terms.APPLICATION) {
                int f = changed(terms.first[t], under, level + 1);
                return f < 0 ? NONE : terms.application(f, changed(terms.second[t], under, level + 1));
            }
            if (terms.sort[t] == Terms.ABSTRACTION) {
                int over = retyped(types.first[terms.type[t]], 0);
                return over < 0 ? NONE : terms.abstraction(over, changed(terms.first[t], under + 1, level + 1));
            }
            return terms.store(terms.sort[t], terms.first[t], terms.second[t], retyped(terms.type[t], 0));
        }

        /** Whether what is put in goes into the place of term t. */
        private boolean stands(int t, int under) {
            switch (way) {
                case REPLACE:
                case ABSTRACT:
                    return t == old;
                case OPEN:
                    return terms.sort[t] == Terms.BOUND && terms.first[t] == under;
                default:
                    return false;
            }
        }

        /** Type a, level parts deep, with the change: itself, if the change is not one of types. */
        private int retyped(int a, int level) {
            if (way != RETYPE || !types.general[a]) {
                return a;
            }
            if (a == old) {
                return put;
            }
            if (types.sort[a] != Types.ARROW) {
                return a;
            }
            if (level >= Types.HIGHEST) {
                return NONE;
            }
            if (typeMemory[a] >> PLACE_BITS == turn) {
                return typeMemory[a] & PLACE_MASK;
            }
            int made = retypedParts(a, level + 1);
            if (made >= 0) {
                typeMemory[a] = turn << PLACE_BITS | made;
            }
            return made;
        }

        /** The arrow a made anew from its parts, which are level parts deep. */
        private int retypedParts(int a, int level) {
            int from = retyped(types.first[a], level);
            return from < 0 ? NONE : types.store(Types.ARROW, from, retyped(types.second[a], level));
        }
    }

    /** The facts, and the one that is being made: opened, given its hypotheses, and closed with its conclusion. */
    private static final class Facts {
        static final int LIMIT = 60;
        static final int MOST_HYPOTHESES = 12;

        private final int[] conclusion = new int[LIMIT];
        private final int[] size = new int[LIMIT];
        private final int[] hypotheses = new int[LIMIT * MOST_HYPOTHESES];
        private final int[] draft = new int[MOST_HYPOTHESES];
        private int draftSize;
        private boolean draftRefused;
        private int count;
        private int kept;

        int size() {
            return count;
        }

        void settle(boolean keep) {
            if (keep) {
                kept = count;
            } else {
                count = kept;
            }
        }

        private boolean isFact(int fact) {
            return fact >= 0 && fact < count;
        }

        int conclusionOf(int fact) {
            return isFact(fact) ? conclusion[fact] : NONE;
        }

        int sizeOf(int fact) {
            return isFact(fact) ? size[fact] : NONE;
        }

        /** Hypothesis i of a fact that has so many. */
        int hypothesis(int fact, int i) {
            return hypotheses[fact * MOST_HYPOTHESES + i];
        }

        boolean has(int fact, int t) {
            for (int i = 0; i < sizeOf(fact); i++) {
                if (hypothesis(fact, i) == t) {
                    return true;
                }
            }
            return false;
        }

        void open() {
            draftSize = 0;
            draftRefused = false;
        }

        void assume(int t) {
            for (int i = 0; i < draftSize; i++) {
                if (draft[i] == t) {
                    return;
                }
            }
            if (t < 0 || draftSize >= MOST_HYPOTHESES) {
                draftRefused = true;
                return;
            }
            draft[draftSize] = t;
            draftSize++;
        }

        void assumeAllBut(int fact, int left) {
            for (int i = 0; i < sizeOf(fact); i++) {
                if (hypothesis(fact, i) != left) {
                    assume(hypothesis(fact, i));
                }
            }
        }

        int close(int newConclusion) {
            if (newConclusion < 0 || draftRefused || count >= LIMIT) {
                return NONE;
            }
            conclusion[count] = newConclusion;
            size[count] = draftSize;
            System.arraycopy(draft, 0, hypotheses, count * MOST_HYPOTHESES, draftSize);
            return count++;
        }
    }

    /** The rules 0 to 10: each looks at the arguments that it uses and makes one fact. */
    private static final class Rules {
        private static final int LAST = 10;

        private final Types types;
        private final Terms terms;
        private final Facts facts;
        private final Change change;
        private int firstReplayed;
        private int replayed;

        Rules(Types types, Terms terms, Facts facts, Change change) {
            this.types = types;
            this.terms = terms;
            this.facts = facts;
            this.change = change;
        }

        boolean has(int op) {
            return op >= 0 && op <= LAST;
        }

        /** From now on -1 - j stands for fact first + j, if j is less than made. */
        void refer(int first, int made) {
            firstReplayed = first;
            replayed = made;
        }

        int make(int op, int a, int b, int c) {
            facts.open();
            switch (op) {
                case 0: return reflexivity(termAt(a));
                case 1: return transitivity(factAt(a), factAt(b));
                case 2: return congruence(factAt(a), factAt(b));
                case 3: return underAbstraction(termAt(a), factAt(b));
                case 4: return opening(termAt(a));
                case 5: return assumption(termAt(a));
                case 6: return equalTruth(factAt(a), factAt(b));
                case 7: return equivalence(factAt(a), factAt(b));
                case 8: return instance(factAt(a), beginsWithTerm(termAt(b), termAt(c)));
                case 9: return instance(factAt(a), beginsWithType(typeAt(b), typeAt(c)));
                case 10: return rewriting(factAt(a), factAt(b));
                default: return NONE;
            }
        }

        private int termAt(int argument) {
            return terms.numbers.placeOf(argument);
        }

        private int typeAt(int argument) {
            return types.numbers.placeOf(argument);
        }

        private int factAt(int argument) {
            int line = -1 - argument;
            int fact = argument >= 0 ? argument : line < replayed ? firstReplayed + line : NONE;
            return fact < facts.size() ? fact : NONE;
        }

        private int leftOf(int fact) {
            return terms.leftOf(facts.conclusionOf(fact));
        }

        /** The right side of a fact's conclusion, if leftOf answers a left side of it. */
        private int rightOf(int fact) {
            return terms.argumentOf(facts.conclusionOf(fact));
        }

        private int closeWithBoth(int factA, int factB, int conclusion) {
            facts.assumeAllBut(factA, NONE);
            facts.assumeAllBut(factB, NONE);
            return facts.close(conclusion);
        }

        private int reflexivity(int t) {
            return facts.close(terms.equation(t, t));
        }

        private int transitivity(int factA, int factB) {
            int left = leftOf(factA);
            if (left < 0 || leftOf(factB) != rightOf(factA)) {
                return NONE;
            }
            return closeWithBoth(factA, factB, terms.equation(left, rightOf(factB)));
        }

        private int congruence(int factA, int factB) {
            int f = leftOf(factA);
            int x = leftOf(factB);
            if (f < 0 || x < 0) {
                return NONE;
            }
            int left = terms.application(f, x);
            int right = terms.application(rightOf(factA), rightOf(factB));
            return closeWithBoth(factA, factB, terms.equation(left, right));
        }

        private int underAbstraction(int x, int fact) {
            int left = leftOf(fact);
            if (left < 0 || terms.sortAt(x) != Terms.VARIABLE || isAssumedOf(x, fact)) {
                return NONE;
            }
            facts.assumeAllBut(fact, NONE);
            int newLeft = change.abstracted(x, left);
            return facts.close(terms.equation(newLeft, change.abstracted(x, rightOf(fact))));
        }

        /** Whether the variable x is free in a hypothesis of the fact. */
        private boolean isAssumedOf(int x, int fact) {
            terms.mark(x);
            for (int i = 0; i < facts.sizeOf(fact); i++) {
                if (terms.marked[facts.hypothesis(fact, i)]) {
                    return true;
                }
            }
            return false;
        }

        private int opening(int t) {
            int abstraction = terms.functionOf(t);
            if (terms.sortAt(abstraction) != Terms.ABSTRACTION) {
                return NONE;
            }
            return facts.close(terms.equation(t, change.opened(abstraction, terms.argumentOf(t))));
        }

        private int assumption(int t) {
            if (terms.typeAt(t) != Types.BOOL) {
                return NONE;
            }
            facts.assume(t);
            return facts.close(t);
        }

        private int equalTruth(int factA, int factB) {
            int p = leftOf(factA);
            if (p < 0 || p != facts.conclusionOf(factB)) {
                return NONE;
            }
            return closeWithBoth(factA, factB, rightOf(factA));
        }

        private int equivalence(int factA, int factB) {
            int p = facts.conclusionOf(factA);
            int q = facts.conclusionOf(factB);
            facts.assumeAllBut(factA, q);
            facts.assumeAllBut(factB, p);
            return facts.close(terms.equation(p, q));
        }

        /** Begins the change of rule 8; whether there is one. */
        private boolean beginsWithTerm(int x, int with) {
            if (terms.sortAt(x) != Terms.VARIABLE || terms.typeAt(with) != terms.type[x]) {
                return false;
            }
            change.begin(Change.REPLACE, x, with);
            return true;
        }

        /** Begins the change of rule 9; whether there is one. */
        private boolean beginsWithType(int a, int with) {
            if (!types.isVariable(a) || with < 0) {
                return false;
            }
            change.begin(Change.RETYPE, a, with);
            return true;
        }

        /** The fact with the change that has begun in its hypotheses and in its conclusion. */
        private int instance(int fact, boolean begun) {
            if (!begun) {
                return NONE;
            }
            for (int i = 0; i < facts.sizeOf(fact); i++) {
                facts.assume(change.of(facts.hypothesis(fact, i)));
            }
            return facts.close(change.of(facts.conclusionOf(fact)));
        }

        private int rewriting(int factA, int factB) {
            int left = leftOf(factA);
            if (left < 0) {
                return NONE;
            }
            change.begin(Change.REPLACE, left, rightOf(factA));
            return closeWithBoth(factA, factB, change.of(facts.conclusionOf(factB)));
        }
    }

    /** The lines of the trace, as they were given. */
    private static final class Trace {
        static final int LIMIT = 12;

        final int[] op = new int[LIMIT];
        final int[] a = new int[LIMIT];
        final int[] b = new int[LIMIT];
        final int[] c = new int[LIMIT];
        private int count;

        int size() {
            return count;
        }

        int add(int newOp, int newA, int newB, int newC) {
            if (count >= LIMIT) {
                return NONE;
            }
            op[count] = newOp;
            a[count] = newA;
            b[count] = newB;
            c[count] = newC;
            return count++;
        }

        int empty() {
            int before = count;
            count = 0;
            return before;
        }
    }
}
