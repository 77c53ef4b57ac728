/** Promise 12, what holds for every rule: handles, refusals, ignored arguments, a full table. */
public final class RuleTest {
    private static final int[] WILD = {-1, Integer.MIN_VALUE, Integer.MAX_VALUE, 32, 48, 16};

    public static void main(String[] args) {
        unknownKinds();
        ignoredArguments();
        wrongHandles();
        fullTable();
        oldTermsAndThmsStay();
        refusedRulesLeaveNothing();
        Due.end();
    }

    private static void unknownKinds() {
        Traced k = new Traced(8, 4);
        int p = k.mkVar(0, 0);
        Due.is("rule R_ASSUME", k.rule(HolKernel.R_ASSUME, p, 0, 0), 0);
        for (int kind : new int[] {0, -1, 11, 12, 266, Integer.MIN_VALUE, Integer.MAX_VALUE}) {
            Due.refused("rule(" + kind + ")", k, () -> k.rule(kind, 0, 0, 0));
        }
    }

    private static void ignoredArguments() {
        for (int x : WILD) {
            Traced k = new Traced(32, 16);
            int p = k.mkVar(0, 0);
            int f = k.mkVar(0, 3);
            int redex = k.mkComb(k.mkAbs(p, p), p);
            int v = k.mkVar(5, 1);
            Due.is("R_REFL of p ignores " + x, k.rule(HolKernel.R_REFL, p, x, x), 0);
            Due.is("R_REFL of f ignores " + x, k.rule(HolKernel.R_REFL, f, x, x), 1);
            Due.is("R_ASSUME ignores " + x, k.rule(HolKernel.R_ASSUME, p, x, x), 2);
            Due.is("R_BETA ignores " + x, k.rule(HolKernel.R_BETA, redex, x, x), 3);
            Due.is("R_BETA_NORM ignores " + x, k.rule(HolKernel.R_BETA_NORM, redex, x, x), 4);
            Due.is("R_TRANS ignores " + x, k.rule(HolKernel.R_TRANS, 0, 0, x), 5);
            Due.is("R_MK_COMB ignores " + x, k.rule(HolKernel.R_MK_COMB, 1, 0, x), 6);
            Due.is("R_ABS ignores " + x, k.rule(HolKernel.R_ABS, 0, v, x), 7);
            Due.is("R_EQ_MP ignores " + x, k.rule(HolKernel.R_EQ_MP, 0, 2, x), 8);
            Due.is("R_DEDUCT ignores " + x, k.rule(HolKernel.R_DEDUCT_ANTISYM, 0, 2, x), 9);
        }
    }

    private static void wrongHandles() {
        Traced k = new Traced(32, 16);
        int p = k.mkVar(0, 0);
        k.mkVar(1, 0);
        int f = k.mkVar(0, 3);
        int same = k.rule(HolKernel.R_REFL, p, 0, 0);
        int functions = k.rule(HolKernel.R_REFL, f, 0, 0);
        for (int x : new int[] {-1, Integer.MIN_VALUE, Integer.MAX_VALUE, 32, 16, 3, 2}) {
            String with = " with theorem " + x;
            Due.refused("R_TRANS a" + with, k, () -> k.rule(HolKernel.R_TRANS, x, same, 0));
            Due.refused("R_TRANS b" + with, k, () -> k.rule(HolKernel.R_TRANS, same, x, 0));
            Due.refused("R_MK_COMB a" + with, k, () -> k.rule(HolKernel.R_MK_COMB, x, same, 0));
            Due.refused("R_MK_COMB b" + with, k,
                    () -> k.rule(HolKernel.R_MK_COMB, functions, x, 0));
            Due.refused("R_ABS a" + with, k, () -> k.rule(HolKernel.R_ABS, x, p, 0));
            Due.refused("R_EQ_MP a" + with, k, () -> k.rule(HolKernel.R_EQ_MP, x, same, 0));
            Due.refused("R_EQ_MP b" + with, k, () -> k.rule(HolKernel.R_EQ_MP, same, x, 0));
            Due.refused("R_DEDUCT a" + with, k,
                    () -> k.rule(HolKernel.R_DEDUCT_ANTISYM, x, same, 0));
            Due.refused("R_DEDUCT b" + with, k,
                    () -> k.rule(HolKernel.R_DEDUCT_ANTISYM, same, x, 0));
            Due.refused("R_INST a" + with, k, () -> k.rule(HolKernel.R_INST, x, p, p));
        }
        for (int x : new int[] {-1, Integer.MIN_VALUE, Integer.MAX_VALUE, 32, 16, 3}) {
            String with = " with term " + x;
            for (int kind = HolKernel.R_BETA; kind <= HolKernel.R_ASSUME; kind++) {
                int rule = kind;
                Due.refused("rule " + kind + with, k, () -> k.rule(rule, x, 0, 0));
            }
            Due.refused("R_REFL" + with, k, () -> k.rule(HolKernel.R_REFL, x, 0, 0));
            Due.refused("R_ABS b" + with, k, () -> k.rule(HolKernel.R_ABS, same, x, 0));
            Due.refused("R_INST b" + with, k, () -> k.rule(HolKernel.R_INST, same, x, p));
            Due.refused("R_INST c" + with, k, () -> k.rule(HolKernel.R_INST, same, p, x));
        }
    }

    private static void fullTable() {
        Traced k = new Traced(32, 4);
        int p = k.mkVar(0, 0);
        int f = k.mkVar(0, 3);
        int a = k.mkVar(0, 1);
        int redex = k.mkComb(k.mkAbs(a, a), a);
        k.rule(HolKernel.R_REFL, p, 0, 0);
        k.rule(HolKernel.R_REFL, f, 0, 0);
        k.rule(HolKernel.R_ASSUME, p, 0, 0);
        Due.is("the last theorem", k.rule(HolKernel.R_EQ_MP, 0, 2, 0), 3);
        Due.refused("R_REFL, full, new types", k, () -> k.rule(HolKernel.R_REFL, a, 0, 0));
        Due.refused("R_TRANS, full", k, () -> k.rule(HolKernel.R_TRANS, 0, 0, 0));
        Due.refused("R_MK_COMB, full", k, () -> k.rule(HolKernel.R_MK_COMB, 1, 0, 0));
        Due.refused("R_ABS, full, new types", k, () -> k.rule(HolKernel.R_ABS, 0, a, 0));
        Due.refused("R_BETA, full, new types", k, () -> k.rule(HolKernel.R_BETA, redex, 0, 0));
        Due.refused("R_BETA_NORM, full", k, () -> k.rule(HolKernel.R_BETA_NORM, redex, 0, 0));
        Due.refused("R_ASSUME, full", k, () -> k.rule(HolKernel.R_ASSUME, p, 0, 0));
        Due.refused("R_EQ_MP, full", k, () -> k.rule(HolKernel.R_EQ_MP, 0, 2, 0));
        Due.refused("R_DEDUCT, full", k, () -> k.rule(HolKernel.R_DEDUCT_ANTISYM, 0, 2, 0));
        Due.refused("R_INST, full", k, () -> k.rule(HolKernel.R_INST, 0, p, p));
    }

    private static void oldTermsAndThmsStay() {
        Traced k = new Traced(32, 16);
        int p = k.mkVar(0, 0);
        int q = k.mkVar(1, 0);
        int redex = k.mkComb(k.mkAbs(p, p), q);
        int[][] calls = {
            {7, q, 0, 0}, {7, p, 0, 0}, {9, 0, 1, 0}, {9, 1, 0, 0}, {8, 2, 0, 0}, {2, 2, 3, 0},
            {5, redex, 0, 0}, {6, redex, 0, 0}, {1, redex, 0, 0}, {4, 6, q, 0}, {10, 2, q, p},
            {3, 9, 6, 0}};
        String terms = Due.terms(k);
        for (int i = 0; i < calls.length; i++) {
            String thms = Due.thms(k);
            int[] c = calls[i];
            Due.is("call " + i, k.rule(c[0], c[1], c[2], c[3]), i);
            Due.is("theorems before call " + i + " stay", Due.thms(k).startsWith(thms), true);
            Due.same("terms after call " + i, Due.terms(k), terms);
        }
    }

    /** What comes after a refused rule must not see what that had begun to build. */
    private static void refusedRulesLeaveNothing() {
        Traced k = new Traced(32, 16);
        int f = k.mkVar(0, 3);
        int g = k.mkVar(1, 3);
        int p = k.mkVar(0, 0);
        int f7 = k.rule(HolKernel.R_ASSUME, Due.chain(k, f, p, 7), 0, 0);
        int g7 = k.rule(HolKernel.R_ASSUME, Due.chain(k, g, p, 7), 0, 0);
        Due.refused("R_DEDUCT, too large", k, () -> k.rule(HolKernel.R_DEDUCT_ANTISYM, f7, g7, 0));
        int assumed = k.rule(HolKernel.R_ASSUME, p, 0, 0);
        Due.is("hypotheses after a refusal", k.hypCount(assumed), 1);
        Due.part("hypothesis after a refusal", k, assumed, 1, Due.var(0, 0));
        Due.refused("R_TRANS of p", k, () -> k.rule(HolKernel.R_TRANS, assumed, assumed, 0));
        Due.refused("R_DEDUCT again", k, () -> k.rule(HolKernel.R_DEDUCT_ANTISYM, f7, g7, 0));
        int equation = k.rule(HolKernel.R_ASSUME, Due.equation(k, p, p), 0, 0);
        Due.is("R_ABS of f after a refusal", k.rule(HolKernel.R_ABS, equation, f, 0), 4);
        Due.is("hypotheses of it", k.hypCount(4), 1);
    }
}
