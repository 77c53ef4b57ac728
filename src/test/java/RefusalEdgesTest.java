import java.util.function.ToIntBiFunction;
import java.util.function.ToIntFunction;

/**
 * The document's section 'Refusal', sentence by sentence: what a refused call leaves, which
 * handles are valid, and which arguments are ignored.
 */
public final class RefusalEdgesTest {
    private static final int[] INTS = {
        Integer.MIN_VALUE, Integer.MIN_VALUE + 1, -65536, -2, -1, 0, 1, 2, 15, 16, 31, 32, 47, 48,
        65536, Integer.MAX_VALUE - 1, Integer.MAX_VALUE};

    // Terms of late(): three variables, and terms of 15 to 18 nodes.
    private static final int P = 0;
    private static final int F = 1;
    private static final int Q = 4;
    private static final int T15 = 9;
    private static final int T16 = 10;
    private static final int T17 = 11;
    private static final int T18 = 12;
    private static final int ID_OF_A = 25;

    public static void main(String[] args) {
        refusedCallsChangeNothing();
        refusedRulesLeaveNoTrace();
        refusedForTypesLeavesNoTrace();
        refusedVariableLeavesNoTrace();
        falseChangesNothing();
        everyRefusalAnswersTheSame();
        typeHandles();
        termHandles();
        termHandlesOfRules();
        thmHandles();
        handleZero();
        handlesBecomeValid();
        ignoredArguments();
        ignoredArgumentsOfRefusedCalls();
        Due.end();
    }

    /**
     * Terms p, f, x:A and others; theorems p |- p, |- f = f, |- x = x, p = p |- p = p and
     * p, p = p |- (p = p) = p.
     */
    private static Traced rich() {
        Traced k = new Traced(32, 16);
        int p = k.mkVar(0, 0);
        int f = k.mkVar(0, 3);
        int x = k.mkVar(0, 1);
        k.mkAbs(p, p);
        int equation = Due.equation(k, p, p);
        k.mkComb(f, p);
        k.rule(HolKernel.R_ASSUME, p, 0, 0);
        k.rule(HolKernel.R_REFL, f, 0, 0);
        k.rule(HolKernel.R_REFL, x, 0, 0);
        int same = k.rule(HolKernel.R_ASSUME, equation, 0, 0);
        k.rule(HolKernel.R_DEDUCT_ANTISYM, same, 0, 0);
        return k;
    }

    /** "A refused call answers -1 ... and changes nothing at all". */
    private static void refusedCallsChangeNothing() {
        Traced k = rich();
        Due.refused("mkFun(0,-1)", k, () -> k.mkFun(0, -1));
        Due.refused("typeArg(0,0)", k, () -> k.typeArg(0, 0));
        Due.refused("mkVar(16,0)", k, () -> k.mkVar(16, 0));
        Due.refused("mkEq(-1)", k, () -> k.mkEq(-1));
        Due.refused("mkComb(0,0)", k, () -> k.mkComb(0, 0));
        Due.refused("mkAbs(3,0)", k, () -> k.mkAbs(3, 0));
        Due.refused("termType(-1)", k, () -> k.termType(-1));
        Due.refused("termSize(-1)", k, () -> k.termSize(-1));
        Due.refused("termNode(0,1)", k, () -> k.termNode(0, 1));
        Due.refused("hypCount(-1)", k, () -> k.hypCount(-1));
        Due.refused("thmSize(0,2)", k, () -> k.thmSize(0, 2));
        Due.refused("thmNode(0,0,1)", k, () -> k.thmNode(0, 0, 1));
        Due.refused("R_REFL of -1", k, () -> k.rule(HolKernel.R_REFL, -1, 0, 0));
        Due.refused("R_TRANS of p", k, () -> k.rule(HolKernel.R_TRANS, 0, 0, 0));
        Due.refused("R_MK_COMB of f and x", k, () -> k.rule(HolKernel.R_MK_COMB, 1, 2, 0));
        Due.refused("R_ABS of f p", k, () -> k.rule(HolKernel.R_ABS, 2, 5, 0));
        Due.refused("R_BETA of p", k, () -> k.rule(HolKernel.R_BETA, 0, 0, 0));
        Due.refused("R_BETA_NORM of -1", k, () -> k.rule(HolKernel.R_BETA_NORM, -1, 0, 0));
        Due.refused("R_ASSUME of x", k, () -> k.rule(HolKernel.R_ASSUME, 2, 0, 0));
        Due.refused("R_EQ_MP of f and p", k, () -> k.rule(HolKernel.R_EQ_MP, 1, 0, 0));
        Due.refused("R_DEDUCT of -1", k, () -> k.rule(HolKernel.R_DEDUCT_ANTISYM, 0, -1, 0));
        Due.refused("R_INST of p by x", k, () -> k.rule(HolKernel.R_INST, 0, 0, 2));
    }

    /**
     * Rules that are refused late, when much of the theorem may have been worked out: each rule
     * after them, and each rule on its theorem, does the same as without them.
     */
    private static void refusedRulesLeaveNoTrace() {
        int[][] refusedCalls = {{1, T15, 0, 0}, {9, 0, 1, 0}, {9, 6, 9, 0}, {2, 12, 10, 0},
            {3, 3, 11, 0}, {5, T18, 0, 0}, {6, T18, 0, 0}, {10, 10, Q, T17}, {4, 6, Q, 0},
            {8, 2, 5, 0}, {7, F, 0, 0}};
        noTrace(late(), refusedCalls);
    }

    /** The same where the theorem is all right, but its types find no room. */
    private static void refusedForTypesLeavesNoTrace() {
        Traced k = late();
        Due.fillTypes(k, 48);
        noTrace(k, new int[][] {{4, 13, P, 0}, {1, ID_OF_A, 0, 0}, {6, ID_OF_A, 0, 0}});
    }

    /** A variable in a conclusion that was too large does not occur in the next theorem. */
    private static void refusedVariableLeavesNoTrace() {
        Traced k = new Traced(32, 16);
        Sized sized = new Sized(k);
        int q = k.mkVar(1, 0);
        int equation = Due.equation(k, q, q);
        int large = sized.of(15);
        Due.is("the last node but one of that term", k.termNode(large, 13), Due.var(0, 0));
        Due.refused("R_REFL of 15 nodes", k, () -> k.rule(HolKernel.R_REFL, large, 0, 0));
        Due.is("q = q |- q = q", k.rule(HolKernel.R_ASSUME, equation, 0, 0), 0);
        Due.is("R_ABS of it with p", k.rule(HolKernel.R_ABS, 0, sized.p, 0), 1);
    }

    private static void noTrace(Traced start, int[][] refusedCalls) {
        int[][] goodCalls = {{1, P, 0, 0}, {2, 2, 2, 0}, {3, 3, 2, 0}, {4, 2, Q, 0}, {5, T16, 0, 0},
            {6, T16, 0, 0}, {7, Q, 0, 0}, {8, 2, 4, 0}, {9, 4, 5, 0}, {10, 6, Q, P}};
        int made = 14;
        int[][] callsOnIt = {{2, made, made, 0}, {3, 3, made, 0}, {4, made, F, 0}, {8, made, 4, 0},
            {9, made, 5, 0}, {10, made, P, Q}};
        Due.is("theorems before", Due.thmCount(start.kernel()), made);
        for (int[] bad : refusedCalls) {
            for (int[] good : goodCalls) {
                for (int[] after : callsOnIt) {
                    HolKernel with = start.again();
                    HolKernel without = start.again();
                    String what = "rule " + good[0] + " after refused rule " + bad[0];
                    Due.is("refused rule " + bad[0], rule(with, bad), -1);
                    Due.is(what, rule(with, good), made);
                    Due.is("rule " + good[0], rule(without, good), made);
                    Due.is(what + ", rule " + after[0] + " on it", rule(with, after),
                            rule(without, after));
                    Due.same(what + ", all", Due.all(with), Due.all(without));
                }
            }
        }
    }

    private static int rule(HolKernel k, int[] call) {
        return k.rule(call[0], call[1], call[2], call[3]);
    }

    /**
     * Theorems 0 to 13: t15 |- t15, t16 |- t16, |- p = p, |- f = f, p |- p, q |- q,
     * p, q |- p = q, r |- r, s |- s, r, s |- r = s, and assumed q = t13, t13 = t13, t17 = q and
     * x = x with x of type A.
     */
    private static Traced late() {
        Traced k = new Traced(32, 16);
        Sized sized = new Sized(k);
        int q = k.mkVar(1, 0);
        sized.of(13);
        int large = sized.of(15);
        int redex = sized.of(16);
        sized.of(17);
        sized.of(18);
        int r = k.mkVar(2, 0);
        int s = k.mkVar(3, 0);
        int x = k.mkVar(0, 1);
        k.rule(HolKernel.R_ASSUME, large, 0, 0);
        k.rule(HolKernel.R_ASSUME, redex, 0, 0);
        k.rule(HolKernel.R_REFL, sized.p, 0, 0);
        k.rule(HolKernel.R_REFL, sized.f, 0, 0);
        k.rule(HolKernel.R_ASSUME, sized.p, 0, 0);
        k.rule(HolKernel.R_ASSUME, q, 0, 0);
        k.rule(HolKernel.R_DEDUCT_ANTISYM, 4, 5, 0);
        k.rule(HolKernel.R_ASSUME, r, 0, 0);
        k.rule(HolKernel.R_ASSUME, s, 0, 0);
        k.rule(HolKernel.R_DEDUCT_ANTISYM, 7, 8, 0);
        k.rule(HolKernel.R_ASSUME, k.mkComb(k.mkComb(sized.eq, q), sized.of(13)), 0, 0);
        sized.assumedEquation(13, 13);
        k.rule(HolKernel.R_ASSUME, k.mkComb(k.mkComb(sized.eq, sized.of(17)), q), 0, 0);
        k.rule(HolKernel.R_ASSUME, Due.equation(k, x, x), 0, 0);
        Due.is("size of term T15", k.termSize(T15), 15);
        Due.is("size of term T16", k.termSize(T16), 16);
        Due.is("size of term T17", k.termSize(T17), 17);
        Due.is("size of term T18", k.termSize(T18), 18);
        Due.is("\\x. x", k.mkAbs(x, x), ID_OF_A);
        return k;
    }

    /** "... (false for the boolean answer) and changes nothing at all". */
    private static void falseChangesNothing() {
        Traced k = rich();
        for (int x : new int[] {-1, 16, Integer.MIN_VALUE, Integer.MAX_VALUE}) {
            String with = "thmPartIs with " + x;
            Due.keeps(with, k, () -> Due.is(with + " as th", k.thmPartIs(x, 0, 0), false));
            Due.keeps(with, k, () -> Due.is(with + " as part", k.thmPartIs(0, x, 0), false));
            Due.keeps(with, k, () -> Due.is(with + " as t", k.thmPartIs(0, 0, x), false));
        }
    }

    /** "Every refusal of a method answers the same": also where several tests fail at once. */
    private static void everyRefusalAnswersTheSame() {
        for (int x : new int[] {-1, Integer.MIN_VALUE, Integer.MAX_VALUE, 48}) {
            Traced k = new Traced(8, 4);
            k.mkVar(0, 0);
            Due.fillTerms(k, 0);
            Due.fillTypes(k, 48);
            for (int th = 0; th < 4; th++) {
                k.rule(HolKernel.R_ASSUME, 0, 0, 0);
            }
            Due.refused("mkFun, all wrong, all full", k, () -> k.mkFun(x, x));
            Due.refused("mkVar, all wrong, all full", k, () -> k.mkVar(x, x));
            Due.refused("mkEq, all wrong, all full", k, () -> k.mkEq(x));
            Due.refused("mkComb, all wrong, all full", k, () -> k.mkComb(x, x));
            Due.refused("mkAbs, all wrong, all full", k, () -> k.mkAbs(x, x));
            Due.refused("typeArg, all wrong", k, () -> k.typeArg(x, x));
            Due.refused("termNode, all wrong", k, () -> k.termNode(x, x));
            Due.refused("thmSize, all wrong", k, () -> k.thmSize(x, x));
            Due.refused("thmNode, all wrong", k, () -> k.thmNode(x, x, x));
            Due.is("thmPartIs, all wrong", k.thmPartIs(x, x, x), false);
            for (int kind = 0; kind <= 11; kind++) {
                int rule = kind;
                Due.refused("rule " + kind + ", all wrong, all full", k,
                        () -> k.rule(rule, x, x, x));
            }
        }
    }

    // "A type, term or theorem handle given as an argument is valid only if 0 <= handle < the
    // current count of that kind; negative values are never valid."

    /**
     * One place where a handle goes. 'good' makes what fits there as the newest of its kind; that
     * handle is taken, and the count, what lies beyond it and all negative values are refused.
     */
    private static void place(String call, ToIntFunction<Traced> good,
            ToIntBiFunction<Traced, Integer> with) {
        Traced k = rich();
        int last = good.applyAsInt(k);
        for (int beyond : new int[] {1, 2, 3, 17, 33, 49}) {
            refused(call, k, with, last + beyond);
        }
        for (int negative : new int[] {-1, -2, -32, -48, Integer.MIN_VALUE}) {
            refused(call, k, with, negative);
        }
        // Sums and products with such handles would wrap around to those of valid ones.
        for (int bit = 6; bit < 32; bit++) {
            refused(call, k, with, last + (1 << bit));
        }
        refused(call, k, with, Integer.MAX_VALUE);
        Due.is(call + " with the newest handle is taken", with.applyAsInt(k, last) != -1, true);
    }

    private static void refused(String call, Traced k, ToIntBiFunction<Traced, Integer> with,
            int handle) {
        Due.refused(call + " with " + handle, k, () -> with.applyAsInt(k, handle));
    }

    private static int newType(Traced k) {
        int first = k.mkFun(1, 2);
        return k.mkFun(first, first);
    }

    private static int newVar(Traced k) {
        return k.mkVar(9, 0);
    }

    private static int newFunction(Traced k) {
        return k.mkVar(9, 3);
    }

    private static int newRedex(Traced k) {
        return k.mkComb(k.mkAbs(0, 0), 0);
    }

    private static int newThm(Traced k) {
        return k.rule(HolKernel.R_REFL, 0, 0, 0);
    }

    private static int newFunctionThm(Traced k) {
        return k.rule(HolKernel.R_REFL, 1, 0, 0);
    }

    private static int newAssumed(Traced k) {
        return k.rule(HolKernel.R_ASSUME, 0, 0, 0);
    }

    private static void typeHandles() {
        place("mkFun d", RefusalEdgesTest::newType, (k, h) -> k.mkFun(h, 0));
        place("mkFun c", RefusalEdgesTest::newType, (k, h) -> k.mkFun(0, h));
        place("typeArg ty, 0", RefusalEdgesTest::newType, (k, h) -> k.typeArg(h, 0));
        place("typeArg ty, 1", RefusalEdgesTest::newType, (k, h) -> k.typeArg(h, 1));
        place("mkVar ty", RefusalEdgesTest::newType, (k, h) -> k.mkVar(0, h));
        place("mkEq a", RefusalEdgesTest::newType, (k, h) -> k.mkEq(h));
    }

    private static void termHandles() {
        place("mkComb f", RefusalEdgesTest::newFunction, (k, h) -> k.mkComb(h, 0));
        place("mkComb x", RefusalEdgesTest::newVar, (k, h) -> k.mkComb(1, h));
        place("mkAbs v", RefusalEdgesTest::newVar, (k, h) -> k.mkAbs(h, 0));
        place("mkAbs s", RefusalEdgesTest::newVar, (k, h) -> k.mkAbs(0, h));
        place("termType t", RefusalEdgesTest::newVar, (k, h) -> k.termType(h));
        place("termSize t", RefusalEdgesTest::newVar, (k, h) -> k.termSize(h));
        place("termNode t", RefusalEdgesTest::newVar, (k, h) -> k.termNode(h, 0));
        place("thmPartIs t", k -> k.mkVar(0, 0), (k, h) -> k.thmPartIs(0, 0, h) ? 1 : -1);
    }

    private static void termHandlesOfRules() {
        place("R_REFL a", RefusalEdgesTest::newVar, (k, h) -> k.rule(1, h, 0, 0));
        place("R_ABS b", RefusalEdgesTest::newVar, (k, h) -> k.rule(4, 2, h, 0));
        place("R_BETA a", RefusalEdgesTest::newRedex, (k, h) -> k.rule(5, h, 0, 0));
        place("R_BETA_NORM a", RefusalEdgesTest::newVar, (k, h) -> k.rule(6, h, 0, 0));
        place("R_ASSUME a", RefusalEdgesTest::newVar, (k, h) -> k.rule(7, h, 0, 0));
        place("R_INST b", RefusalEdgesTest::newVar, (k, h) -> k.rule(10, 0, h, 0));
        place("R_INST c", RefusalEdgesTest::newVar, (k, h) -> k.rule(10, 0, 0, h));
    }

    private static void thmHandles() {
        place("R_TRANS a", RefusalEdgesTest::newFunctionThm, (k, h) -> k.rule(2, h, 1, 0));
        place("R_TRANS b", RefusalEdgesTest::newFunctionThm, (k, h) -> k.rule(2, 1, h, 0));
        place("R_MK_COMB a", RefusalEdgesTest::newFunctionThm, (k, h) -> k.rule(3, h, 3, 0));
        place("R_MK_COMB b", RefusalEdgesTest::newThm, (k, h) -> k.rule(3, 1, h, 0));
        place("R_ABS a", RefusalEdgesTest::newThm, (k, h) -> k.rule(4, h, 0, 0));
        place("R_EQ_MP a", RefusalEdgesTest::newThm, (k, h) -> k.rule(8, h, 0, 0));
        place("R_EQ_MP b", RefusalEdgesTest::newAssumed, (k, h) -> k.rule(8, 3, h, 0));
        place("R_DEDUCT a", RefusalEdgesTest::newThm, (k, h) -> k.rule(9, h, 0, 0));
        place("R_DEDUCT b", RefusalEdgesTest::newThm, (k, h) -> k.rule(9, 0, h, 0));
        place("R_INST a", RefusalEdgesTest::newThm, (k, h) -> k.rule(10, h, 0, 0));
        place("hypCount th", RefusalEdgesTest::newThm, (k, h) -> k.hypCount(h));
        place("thmSize th", RefusalEdgesTest::newThm, (k, h) -> k.thmSize(h, 0));
        place("thmNode th", RefusalEdgesTest::newThm, (k, h) -> k.thmNode(h, 0, 0));
        place("thmPartIs th", RefusalEdgesTest::newAssumed,
                (k, h) -> k.thmPartIs(h, 0, 0) ? 1 : -1);
    }

    /** Handle 0 is valid wherever something of its kind stands there. */
    private static void handleZero() {
        Traced k = new Traced(32, 16);
        Due.is("mkFun(0,0)", k.mkFun(0, 0), 3);
        Due.is("mkVar(0,0)", k.mkVar(0, 0), 0);
        Due.is("mkAbs(0,0)", k.mkAbs(0, 0), 1);
        Due.is("mkComb(1,0)", k.mkComb(1, 0), 2);
        Due.is("mkEq(0)", k.mkEq(0), 3);
        Due.is("termType(0)", k.termType(0), 0);
        Due.is("termSize(0)", k.termSize(0), 1);
        Due.is("termNode(0,0)", k.termNode(0, 0), Due.var(0, 0));
        Due.is("R_REFL of 0", k.rule(1, 0, 0, 0), 0);
        Due.is("R_TRANS of 0 and 0", k.rule(2, 0, 0, 0), 1);
        Due.is("R_ABS of 0 and 0", k.rule(4, 0, 0, 0), 2);
        Due.is("R_MK_COMB of 2 and 0", k.rule(3, 2, 0, 0), 3);
        Due.is("R_BETA_NORM of 0", k.rule(6, 0, 0, 0), 4);
        Due.is("R_ASSUME of 0", k.rule(7, 0, 0, 0), 5);
        Due.is("R_EQ_MP of 0", k.rule(8, 0, 5, 0), 6);
        Due.is("R_DEDUCT of 0 and 0", k.rule(9, 0, 0, 0), 7);
        Due.is("R_INST of 0, 0 and 0", k.rule(10, 0, 0, 0), 8);
        Due.is("hypCount(0)", k.hypCount(0), 0);
        Due.is("thmSize(0,0)", k.thmSize(0, 0), 5);
        Due.is("thmNode(0,0,0)", k.thmNode(0, 0, 0), Due.COMB);
        Due.is("thmPartIs(5,0,0)", k.thmPartIs(5, 0, 0), true);

        Traced f = new Traced(8, 4);
        f.mkVar(0, 3);
        f.mkVar(0, 0);
        Due.is("mkComb(0,1)", f.mkComb(0, 1), 2);
        Due.is("f = f", f.rule(1, 0, 0, 0), 0);
        Due.is("p = p", f.rule(1, 1, 0, 0), 1);
        Due.is("R_MK_COMB of 0 and 1", f.rule(3, 0, 1, 0), 2);

        Traced p = new Traced(8, 4);
        p.mkVar(0, 0);
        p.rule(7, 0, 0, 0);
        p.rule(1, 0, 0, 0);
        Due.is("R_EQ_MP of 1 and 0", p.rule(8, 1, 0, 0), 2);
    }

    /** The same handle is refused before, and valid after what it names has come. */
    private static void handlesBecomeValid() {
        Traced k = new Traced(8, 4);
        k.mkVar(0, 0);
        Due.refused("mkVar(0,5) too early", k, () -> k.mkVar(0, 5));
        k.mkFun(1, 1);
        Due.is("mkVar(0,5)", k.mkVar(0, 5), 1);
        Due.refused("mkAbs(2,2) too early", k, () -> k.mkAbs(2, 2));
        k.mkVar(1, 0);
        Due.is("mkAbs(2,2)", k.mkAbs(2, 2), 3);
        Due.refused("R_DEDUCT of 0 and 1 too early", k, () -> k.rule(9, 0, 1, 0));
        k.rule(7, 0, 0, 0);
        Due.refused("R_DEDUCT of 0 and 1 still too early", k, () -> k.rule(9, 0, 1, 0));
        k.rule(7, 2, 0, 0);
        Due.is("R_DEDUCT of 0 and 1", k.rule(9, 0, 1, 0), 2);
        Due.is("hypCount(3) too early", k.hypCount(3), -1);
        k.rule(7, 2, 0, 0);
        Due.is("hypCount(3)", k.hypCount(3), 1);
    }

    /** "Arguments not used by a call are ignored, whatever their value." */
    private static void ignoredArguments() {
        for (int x : INTS) {
            Traced k = withThms();
            Traced plain = withThms();
            int[][] calls = {{1, 0}, {2, 2, 2}, {3, 3, 2}, {4, 2, 1}, {5, 6}, {6, 6}, {7, 0},
                {8, 2, 0}, {9, 0, 1}};
            for (int[] call : calls) {
                boolean usesB = call.length > 2;
                int due = Due.thmCount(plain.kernel());
                Due.is("rule " + call[0],
                        plain.rule(call[0], call[1], usesB ? call[2] : 0, 0), due);
                Due.is("rule " + call[0] + " ignores " + x,
                        k.rule(call[0], call[1], usesB ? call[2] : x, x), due);
                Due.same("rule " + call[0] + " with " + x + " ignored", Due.all(k.kernel()),
                        Due.all(plain.kernel()));
            }
        }
    }

    /** Terms p, q, f, x:A, \x. x, y, (\x. x) y; theorems p |- p, q |- q, |- p = p, |- f = f. */
    private static Traced withThms() {
        Traced k = new Traced(32, 16);
        int p = k.mkVar(0, 0);
        int q = k.mkVar(1, 0);
        int f = k.mkVar(0, 3);
        int x = k.mkVar(0, 1);
        int id = k.mkAbs(x, x);
        int y = k.mkVar(1, 1);
        k.mkComb(id, y);
        k.rule(HolKernel.R_ASSUME, p, 0, 0);
        k.rule(HolKernel.R_ASSUME, q, 0, 0);
        k.rule(HolKernel.R_REFL, p, 0, 0);
        k.rule(HolKernel.R_REFL, f, 0, 0);
        return k;
    }

    /** What is ignored can't make a refused call good, even if it is what a used one should be. */
    private static void ignoredArgumentsOfRefusedCalls() {
        for (int x : INTS) {
            Traced k = withThms();
            Due.refused("R_REFL of -1 with " + x, k, () -> k.rule(1, -1, x, x));
            Due.refused("R_TRANS of p with " + x, k, () -> k.rule(2, 0, 2, x));
            Due.refused("R_MK_COMB of p with " + x, k, () -> k.rule(3, 0, 2, x));
            Due.refused("R_ABS of no variable with " + x, k, () -> k.rule(4, 2, 4, x));
            Due.refused("R_BETA of p with " + x, k, () -> k.rule(5, 0, x, x));
            Due.refused("R_BETA_NORM of -1 with " + x, k, () -> k.rule(6, -1, x, x));
            Due.refused("R_ASSUME of f with " + x, k, () -> k.rule(7, 2, x, x));
            Due.refused("R_EQ_MP of f with " + x, k, () -> k.rule(8, 3, 0, x));
            Due.refused("R_DEDUCT of -1 with " + x, k, () -> k.rule(9, 0, -1, x));
        }
    }
}
