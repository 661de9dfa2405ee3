import java.lang.management.ManagementFactory;
import java.util.Random;

/** The limits of the document, at their edges, and that no call goes beyond them. */
final class LimitTests {
    private LimitTests() {
    }

    static void all() {
        termsAtMost250();
        typesAtMost50();
        factsAtMost60();
        defineTypeNeedsTwoFacts();
        hypothesesAtMost12();
        hypothesesThatGo();
        termHeight();
        typeHeight();
        heightOfWhatRulesMake();
        typeHeightOfWhatRulesMake();
        refusedHalfway();
        sharedParts();
        sharedPartsUnderAbstractions();
        sharedTypes();
        anyArguments();
        callsMakeNoObjects();
    }

    private static int equation(SequentKernel k, int left, int right) {
        return k.apply(k.apply(k.equality(k.typeOf(left)), left), right);
    }

    private static void unchanged(String what, SequentKernel k, int terms, int types, int facts) {
        Check.is(what + ": terms", k.count(0), terms);
        Check.is(what + ": types", k.count(1), types);
        Check.is(what + ": facts", k.count(2), facts);
    }

    /** An object with so many variables in its store, of as few types as can be. */
    private static SequentKernel withVariables(int wanted) {
        SequentKernel k = new SequentKernel();
        int type = 0;
        for (int made = 0; made < wanted; made++) {
            if (made > 0 && made % 8 == 0) {
                type++;
            }
            if (type >= k.count(4)) {
                k.arrow((type - 2) / 8, (type - 2) % 8 % type);
            }
            Check.is("variable " + made, k.variable(made % 8, type), made);
        }
        return k;
    }

    private static void termsAtMost250() {
        SequentKernel k = withVariables(250);
        int types = k.count(1);
        Check.is("250 are there", k.count(0), 250);
        Check.is("one that is there", k.variable(0, 0), 0);
        Check.is("one more", k.variable(7, 31), -1);
        Check.is("an equality", k.equality(0), -1);
        Check.is("an application", k.apply(k.variable(0, 2), 0), -1);
        Check.is("an abstraction", k.lambda(0, 0), -1);
        Check.is("rule 0", k.rule(0, 0, 0, 0), -1);
        unchanged("all refused", k, 250, types, 0);
        Check.is("rule 5 makes no term", k.rule(5, 0, 0, 0), 0);
        Check.is("rule 8 between variables of the store", k.rule(8, 0, 0, 1), 1);
        Check.is("numbers go on", k.count(3), 250);
        SequentKernel almost = withVariables(248);
        types = almost.count(1);
        Check.is("two of three would fit", almost.rule(0, 0, 0, 0), -1);
        unchanged("two of three", almost, 248, types, 0);
        SequentKernel enough = withVariables(247);
        Check.is("three of three fit", enough.rule(0, 0, 0, 0), 0);
        Check.is("full", enough.count(0), 250);
        enough.line(5, 0, 0, 0);
        enough.line(0, 1, 0, 0);
        Check.is("no term more by a trace", enough.replay(), -2);
        unchanged("by a trace", enough, 250, enough.count(1), 1);
    }

    private static SequentKernel withTypes(int wanted) {
        SequentKernel k = new SequentKernel();
        for (int made = 2; made < wanted; made++) {
            Check.is("type " + made, k.arrow((made - 2) / 7, (made - 2) % 7 % made), made);
        }
        Check.is("types", k.count(1), wanted);
        return k;
    }

    private static void typesAtMost50() {
        SequentKernel k = withTypes(50);
        Check.is("one that is there", k.arrow(0, 0), 2);
        Check.is("one more", k.arrow(49, 0), -1);
        Check.is("a type variable", k.typeVariable(0), -1);
        Check.is("a variable needs none", k.variable(0, 49), 0);
        Check.is("an abstraction does", k.lambda(k.variable(0, 49), k.variable(0, 48)), -1);
        Check.is("so does an equality", k.equality(49), -1);
        Check.is("and an equation", k.rule(0, 0, 0, 0), -1);
        unchanged("all refused", k, 2, 50, 0);
        SequentKernel almost = withTypes(49);
        Check.is("an equality needs two", almost.equality(48), -1);
        unchanged("an equality needs two", almost, 0, 49, 0);
        Check.is("a type variable fits", almost.typeVariable(3), 49);
        SequentKernel enough = withTypes(48);
        Check.is("two for an equality fit", enough.equality(47), 0);
        Check.is("full", enough.count(1), 50);
    }

    private static void factsAtMost60() {
        SequentKernel k = new SequentKernel();
        int x = k.variable(0, 0);
        k.lambda(x, x);
        for (int i = 0; i < 58; i++) {
            Check.is("fact " + i, k.rule(5, x, 0, 0), i);
        }
        k.line(5, x, 0, 0);
        k.line(5, x, 0, 0);
        k.line(5, x, 0, 0);
        Check.is("three by a trace", k.replay(), -3);
        Check.is("none is left of them", k.count(2), 58);
        k.rule(5, x, 0, 0);
        Check.is("the last one by define", k.define(1), 59);
        int terms = k.count(0);
        Check.is("a rule", k.rule(5, x, 0, 0), -1);
        Check.is("define", k.define(1), -1);
        Check.is("replay", k.replay(), -1);
        unchanged("all refused", k, terms, k.count(1), 60);
    }

    private static void defineTypeNeedsTwoFacts() {
        for (int facts = 58; facts <= 59; facts++) {
            SequentKernel k = new SequentKernel();
            int x = k.variable(0, 0);
            for (int i = 0; i < facts; i++) {
                k.rule(0, k.lambda(x, x), 0, 0);
            }
            int terms = k.count(0);
            int types = k.count(1);
            Check.is("defineType with " + facts, k.defineType(0), facts == 58 ? 58 : -1);
            if (facts == 59) {
                unchanged("defineType with 59", k, terms, types, 59);
                Check.is("no constant was used", k.define(1), 59);
                Check.is("constant 0", k.part(k.part(k.part(k.conclusion(59), 0), 1), 0), 0);
            }
        }
    }

    /** The fact (with its own hypothesis x) under so many equations more; l stands nowhere in x. */
    private static int underEquations(SequentKernel k, int fact, int many) {
        int under = fact;
        for (int i = 0; i < many; i++) {
            int left = k.variable(1 + i % 7, 1);
            under = k.rule(10, k.rule(5, equation(k, left, k.variable(i / 7, 1)), 0, 0), under, 0);
        }
        return under;
    }

    private static void hypothesesAtMost12() {
        SequentKernel k = new SequentKernel();
        int x = k.variable(0, 0);
        int y = k.variable(1, 0);
        int full = underEquations(k, k.rule(5, x, 0, 0), 11);
        Check.is("twelve", k.hypotheses(full), 12);
        Check.is("conclusion", k.conclusion(full), x);
        int other = k.rule(5, equation(k, x, y), 0, 0);
        int facts = k.count(2);
        Check.is("a thirteenth, rule 6", k.rule(6, other, full, 0), -1);
        Check.is("a thirteenth, rule 10", k.rule(10, other, full, 0), -1);
        Check.is("a thirteenth, rule 7", k.rule(7, other, full, 0), -1);
        Check.is("no fact", k.count(2), facts);
        int again = k.rule(7, full, full, 0);
        Check.is("the same ones again", k.hypotheses(again), 11);
        Check.is("twelve of two facts", k.hypotheses(k.rule(10, 1, full, 0)), 12);
    }

    /** Rule 7 counts what is left: a hypothesis that goes makes room. */
    private static void hypothesesThatGo() {
        SequentKernel k = new SequentKernel();
        int x = k.variable(0, 0);
        int y = k.variable(1, 0);
        int full = underEquations(k, k.rule(5, x, 0, 0), 11);
        int fromX = k.rule(6, k.rule(5, equation(k, x, y), 0, 0), k.rule(5, x, 0, 0), 0);
        int made = k.rule(7, full, fromX, 0);
        Check.is("y from x = y and x; x goes", k.hypotheses(made), -1);
        int small = underEquations(k, k.rule(5, x, 0, 0), 10);
        made = k.rule(7, small, fromX, 0);
        Check.is("ten, x of the first, x = y", k.hypotheses(made), 12);
        Check.yes("x stays, from the first", k.assumes(made, x));
        made = k.rule(7, k.rule(5, y, 0, 0), full, 0);
        Check.is("y and twelve", made, -1);
        int yFull = k.rule(8, full, x, y);
        Check.is("y under twelve, and y: y goes", k.hypotheses(k.rule(7, yFull, k.rule(5, y, 0, 0), 0)), 11);
    }

    /** f (f (.. x)), of the height wanted. */
    private static int tower(SequentKernel k, int f, int x, int height) {
        int t = x;
        for (int h = 1; h < height; h++) {
            t = k.apply(f, t);
        }
        return t;
    }

    private static void termHeight() {
        SequentKernel k = new SequentKernel();
        int x = k.variable(0, 0);
        int f = k.variable(0, k.arrow(0, 0));
        int top = tower(k, f, x, 20);
        Check.yes("20 is fine", top >= 0);
        int terms = k.count(0);
        Check.is("21 by apply", k.apply(f, top), -1);
        Check.is("21 by lambda", k.lambda(f, top), -1);
        Check.is("21 by a lambda that binds nothing", k.lambda(k.variable(0, 1), top), -1);
        Check.is("lambda left nothing but its variable", k.count(0), terms + 1);
        Check.is("22 by rule 0", k.rule(0, top, 0, 0), -1);
        Check.is("rule 5 adds no height", k.rule(5, top, 0, 0), 0);
        int below = k.part(top, 1);
        Check.is("21 by rule 0", k.rule(0, below, 0, 0), -1);
        Check.yes("20 by rule 0", k.rule(0, k.part(below, 1), 0, 0) >= 0);
        Check.yes("20 by lambda", k.lambda(f, below) >= 0);
    }

    private static void typeHeight() {
        SequentKernel k = new SequentKernel();
        int[] of = new int[11];
        of[1] = 1;
        for (int h = 2; h <= 10; h++) {
            of[h] = k.arrow(0, of[h - 1]);
            Check.yes("height " + h, of[h] >= 0);
        }
        int x = k.variable(0, 0);
        int v = k.variable(0, of[10]);
        Check.is("11 by arrow", k.arrow(0, of[10]), -1);
        Check.is("11 by arrow, from", k.arrow(of[10], 0), -1);
        Check.is("11 by lambda", k.lambda(x, v), -1);
        Check.is("11 by lambda, over", k.lambda(v, x), -1);
        Check.is("11 by equality", k.equality(of[9]), -1);
        Check.yes("10 by equality", k.equality(of[8]) >= 0);
        Check.is("11 by rule 0", k.rule(0, k.variable(0, of[9]), 0, 0), -1);
        Check.yes("10 by rule 0", k.rule(0, k.variable(0, of[8]), 0, 0) >= 0);
    }

    private static void heightOfWhatRulesMake() {
        SequentKernel k = new SequentKernel();
        int x = k.variable(0, 0);
        int y = k.variable(1, 0);
        int f = k.variable(0, k.arrow(0, 0));
        int ten = tower(k, f, x, 10);
        int eleven = k.apply(f, ten);
        int twelve = k.apply(f, eleven);
        int assumed = k.rule(5, ten, 0, 0);
        int byEleven = k.rule(5, equation(k, x, eleven), 0, 0);
        int byTwelve = k.rule(5, equation(k, x, twelve), 0, 0);
        int redexFine = k.apply(k.lambda(x, k.part(k.part(ten, 1), 1)), eleven);
        int redexHigh = k.apply(k.lambda(x, twelve), eleven);
        int terms = k.count(0);
        int facts = k.count(2);
        Check.is("21 by rule 8", k.rule(8, assumed, x, twelve), -1);
        Check.is("21 by rule 10", k.rule(10, byTwelve, assumed, 0), -1);
        Check.is("22 by rule 4", k.rule(4, redexHigh, 0, 0), -1);
        unchanged("all refused", k, terms, k.count(1), facts);
        Check.is("20 by rule 8", k.rule(8, assumed, x, eleven), facts);
        Check.is("20 by rule 10", k.rule(10, byEleven, assumed, 0), facts + 1);
        Check.is("19 in an equation by rule 4", k.rule(4, redexFine, 0, 0), facts + 2);
        int low = k.rule(8, k.rule(10, byTwelve, k.rule(5, y, 0, 0), 0), y, x);
        Check.yes("a hypothesis with x", k.assumes(low, x));
        Check.is("22 in a hypothesis alone", k.rule(8, low, x, tower(k, f, y, 10)), -1);
    }

    private static void typeHeightOfWhatRulesMake() {
        SequentKernel k = new SequentKernel();
        int a = k.typeVariable(0);
        int[] of = new int[11];
        of[1] = 1;
        for (int h = 2; h <= 10; h++) {
            of[h] = k.arrow(0, of[h - 1]);
        }
        int fact = k.rule(0, k.variable(0, k.arrow(a, 0)), 0, 0);
        int terms = k.count(0);
        int types = k.count(1);
        Check.is("11 by rule 9", k.rule(9, fact, a, of[8]), -1);
        unchanged("11 by rule 9", k, terms, types, 1);
        Check.is("10 by rule 9", k.rule(9, fact, a, of[7]), 1);
        int x = k.variable(0, 0);
        int y = k.variable(0, of[8]);
        int equation = k.rule(0, y, 0, 0);
        Check.is("rule 3 over x", k.rule(3, x, equation, 0), -1);
        Check.is("rule 3 is refused for its equality alone", k.typeOf(k.lambda(x, y)), of[9]);
    }

    /** A refused call leaves nothing of what it made before it met the limit. */
    private static void refusedHalfway() {
        SequentKernel k = new SequentKernel();
        int x = k.variable(0, 0);
        int f = k.variable(0, k.arrow(0, 0));
        int top = tower(k, f, x, 19);
        int terms = k.count(0);
        int types = k.count(1);
        Check.is("the equality of BOOL was not there", k.rule(0, top, 0, 0), -1);
        unchanged("rule 0", k, terms, types, 0);
        k.line(5, x, 0, 0);
        k.line(7, -1, -1, 0);
        k.line(0, f, 0, 0);
        k.line(0, top, 0, 0);
        Check.is("line 3", k.replay(), -4);
        unchanged("replay", k, terms, types, 0);
        Check.is("numbers of types", k.count(4), 3);
        Check.is("the next type", k.arrow(0, 1), 3);
        Check.is("the next term", k.equality(0), k.count(3) - 1);
        Check.is("types", k.count(1), types + 2);
    }

    /** Step i has the four steps before it as its parts, so that step 17 has some 50,000 places for x. */
    private static int doubling(SequentKernel k, int x, int steps) {
        int[] made = new int[steps + 1];
        made[0] = x;
        int type = 0;
        for (int i = 1; i <= steps; i++) {
            int arguments = Math.min(i, 4);
            type = i <= 4 ? k.arrow(0, type) : type;
            int t = k.variable(0, type);
            for (int j = arguments; j > 0; j--) {
                t = k.apply(t, made[i - j]);
            }
            made[i] = t;
        }
        return made[steps];
    }

    private static void sharedParts() {
        SequentKernel k = new SequentKernel();
        int x = k.variable(0, 0);
        int y = k.variable(1, 0);
        int big = doubling(k, x, 17);
        Check.yes("the term is made", big >= 0);
        int assumed = k.rule(5, big, 0, 0);
        int other = k.rule(8, assumed, x, y);
        Check.yes("rule 8", other >= 0);
        int overX = k.lambda(x, big);
        Check.is("the same over y", k.lambda(y, k.conclusion(other)), overX);
        for (int i = 0; i < 40; i++) {
            Check.yes("free", k.free(x, big));
            Check.no("not free", k.free(y, big));
            Check.no("bound", k.free(x, overX));
        }
        int equal = k.rule(5, equation(k, x, y), 0, 0);
        Check.is("rule 10", k.conclusion(k.rule(10, equal, assumed, 0)), k.conclusion(other));
        for (int i = 0; i < 10; i++) {
            k.line(10, equal, assumed, 0);
        }
        Check.is("again and again", k.replay(), 10);
    }

    /** One argument at each depth: the same parts stand under other numbers of abstractions. */
    private static void sharedPartsUnderAbstractions() {
        SequentKernel k = new SequentKernel();
        int x = k.variable(0, 0);
        int z = k.variable(7, 0);
        int pair = k.variable(1, k.arrow(0, k.arrow(0, 0)));
        int bind = k.variable(2, k.arrow(k.arrow(0, 0), 0));
        int t = x;
        for (int i = 0; i < 4; i++) {
            t = k.apply(k.apply(pair, t), k.apply(bind, k.lambda(z, t)));
        }
        int overX = k.lambda(x, t);
        int onZ = k.apply(overX, z);
        int opened = k.rule(4, onZ, 0, 0);
        int assumed = k.rule(5, t, 0, 0);
        int replaced = k.rule(8, assumed, x, z);
        Check.is("opened as replaced", k.part(k.conclusion(opened), 1), k.conclusion(replaced));
        Check.is("and abstracted again", k.lambda(z, k.conclusion(replaced)), overX);
        Check.yes("z is free at every depth", k.free(z, k.conclusion(replaced)));
    }

    private static void sharedTypes() {
        SequentKernel k = new SequentKernel();
        int a = k.typeVariable(0);
        int type = a;
        for (int i = 0; i < 7; i++) {
            type = k.arrow(type, type);
        }
        int v = k.variable(0, type);
        int fact = k.rule(0, v, 0, 0);
        int made = k.rule(9, fact, a, 1);
        Check.yes("rule 9", made >= 0);
        int wanted = 1;
        for (int i = 0; i < 7; i++) {
            wanted = k.arrow(wanted, wanted);
        }
        Check.is("the type", k.typeOf(k.part(k.conclusion(made), 1)), wanted);
    }

    private static void anyArguments() {
        Random random = new Random(7);
        int calls = 0;
        for (int run = 0; run < 40; run++) {
            SequentKernel k = new SequentKernel();
            for (int i = 0; i < 2000; i++) {
                anyCall(k, random);
                calls++;
            }
            Check.yes("limits hold", k.count(0) <= 250 && k.count(1) <= 50 && k.count(2) <= 60);
        }
        Check.is("no call threw", calls, 80000);
    }

    private static int anyNumber(Random random) {
        switch (random.nextInt(8)) {
            case 0: return random.nextInt();
            case 1: return -1 - random.nextInt(14);
            case 2: return random.nextInt(260);
            default: return random.nextInt(8);
        }
    }

    private static void anyCall(SequentKernel k, Random random) {
        int a = anyNumber(random);
        int b = anyNumber(random);
        int c = anyNumber(random);
        switch (random.nextInt(20)) {
            case 0: k.typeVariable(a); break;
            case 1: k.arrow(a, b); break;
            case 2: k.variable(a, b); break;
            case 3: k.equality(a); break;
            case 4: k.apply(a, b); break;
            case 5: k.lambda(a, b); break;
            case 6: k.define(a); break;
            case 7: k.defineType(a); break;
            case 8: k.line(random.nextInt(12), a, b, c); break;
            case 9: k.clear(); break;
            case 10: k.replay(); break;
            case 11: k.typeOf(a); break;
            case 12: k.kind(a); break;
            case 13: k.part(a, b); break;
            case 14: k.free(a, b); break;
            case 15: k.conclusion(a); break;
            case 16: k.hypotheses(a); break;
            case 17: k.assumes(a, b); break;
            case 18: k.count(a); break;
            default: k.rule(random.nextInt(12), a, b, c); break;
        }
    }

    /** All calls of a run live in one room, so the rows are made in the constructor and used again. */
    private static void callsMakeNoObjects() {
        com.sun.management.ThreadMXBean threads =
                (com.sun.management.ThreadMXBean) ManagementFactory.getThreadMXBean();
        long id = Thread.currentThread().getId();
        long least = Long.MAX_VALUE;
        for (int run = 0; run < 5; run++) {
            SequentKernel k = new SequentKernel();
            Random random = new Random(11);
            long before = threads.getThreadAllocatedBytes(id);
            for (int i = 0; i < 512; i++) {
                anyCall(k, random);
            }
            least = Math.min(least, threads.getThreadAllocatedBytes(id) - before);
        }
        Check.yes("bytes in 512 calls: " + least, least < 4096);
    }
}
