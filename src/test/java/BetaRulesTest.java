/** Promise 12: R_BETA and R_BETA_NORM, and with them contraction and normal order. */
public final class BetaRulesTest {
    private static final int BETA = HolKernel.R_BETA;
    private static final int NORM = HolKernel.R_BETA_NORM;

    public static void main(String[] args) {
        beta();
        betaUnderAbs();
        betaWrongShapes();
        betaEdges();
        normWithoutRedex();
        normStepByStep();
        normLifts();
        normOrder();
        normIntermediateSize();
        normEdges();
        normIntermediateEdges();
        typesOfBoth();
        Due.end();
    }

    private static void beta() {
        Traced k = new Traced(16, 8);
        int x = k.mkVar(0, 1);
        int y = k.mkVar(1, 1);
        int twice = k.mkAbs(x, Due.equation(k, x, x));
        int redex = k.mkComb(twice, y);
        Due.is("R_BETA", k.rule(BETA, redex, 0, 0), 0);
        Due.is("its hypotheses", k.hypCount(0), 0);
        Due.part("(\\x. x = x) y = (y = y)", k, 0, 0, Due.COMB, Due.COMB, Due.eq(0),
                Due.COMB, Due.abs(1), Due.COMB, Due.COMB, Due.eq(1), Due.bound(0, 1),
                Due.bound(0, 1), Due.var(1, 1),
                Due.COMB, Due.COMB, Due.eq(1), Due.var(1, 1), Due.var(1, 1));
        int constant = k.mkAbs(x, k.mkVar(3, 0));
        Due.is("R_BETA, the argument goes", k.rule(BETA, k.mkComb(constant, y), 0, 0), 1);
        Due.part("(\\x. p) y = p", k, 1, 0, Due.COMB, Due.COMB, Due.eq(0), Due.COMB, Due.abs(1),
                Due.var(3, 0), Due.var(1, 1), Due.var(3, 0));
    }

    private static void betaUnderAbs() {
        Traced k = new Traced(16, 8);
        int p = k.mkVar(0, 0);
        int q = k.mkVar(1, 0);
        int g = k.mkVar(2, 4);
        int r = k.mkVar(3, 0);
        // (\p. \q. g p q) ((\r. r) q): the argument holds a redex and the bound name's variable.
        int body = k.mkComb(k.mkComb(g, p), q);
        int function = k.mkAbs(p, k.mkAbs(q, body));
        int arg = k.mkComb(k.mkAbs(r, r), q);
        int t = k.mkComb(function, arg);
        Due.is("R_BETA", k.rule(BETA, t, 0, 0), 0);
        Due.part("one contraction, the outer one", k, 0, 0, Due.COMB, Due.COMB, Due.eq(3),
                Due.COMB, Due.abs(0), Due.abs(0), Due.COMB, Due.COMB, Due.var(2, 4),
                Due.bound(1, 0), Due.bound(0, 0), Due.COMB, Due.abs(0), Due.bound(0, 0),
                Due.var(1, 0),
                Due.abs(0), Due.COMB, Due.COMB, Due.var(2, 4), Due.COMB, Due.abs(0),
                Due.bound(0, 0), Due.var(1, 0), Due.bound(0, 0));
    }

    private static void betaWrongShapes() {
        Traced k = new Traced(16, 8);
        int p = k.mkVar(0, 0);
        int f = k.mkVar(0, 3);
        int eq = k.mkEq(0);
        int fp = k.mkComb(f, p);
        int id = k.mkAbs(p, p);
        int redex = k.mkComb(id, p);
        int inside = k.mkComb(f, redex);
        int under = k.mkAbs(p, redex);
        int left = k.mkComb(k.mkComb(k.mkAbs(p, eq), p), p);
        for (int t : new int[] {p, f, eq, fp, id, inside, under, left}) {
            Due.refused("R_BETA of term " + t, k, () -> k.rule(BETA, t, 0, 0));
        }
        Due.is("R_BETA of a redex", k.rule(BETA, redex, 0, 0), 0);
    }

    private static void betaEdges() {
        Traced k = new Traced(32, 8);
        int f = k.mkVar(0, 3);
        int p = k.mkVar(0, 0);
        int id = k.mkAbs(p, p);
        int t13 = Due.chain(k, f, p, 6);
        int t16 = k.mkComb(id, t13);
        Due.is("R_BETA of size 32", k.rule(BETA, t16, 0, 0), 0);
        Due.is("its size", k.thmSize(0, 0), 32);
        Due.is("its last node", k.thmNode(0, 0, 31), Due.var(0, 0));
        int t14 = k.mkComb(id, Due.chain(k, f, p, 5));
        int t17 = k.mkComb(id, t14);
        Due.refused("R_BETA of size 34", k, () -> k.rule(BETA, t17, 0, 0));
        int t15 = k.mkComb(f, t13);
        int constant = k.mkAbs(p, t15);
        int to15 = k.mkComb(constant, p);
        Due.is("size of (\\p. t15) with p bound", k.termSize(to15), 18);
        Due.refused("R_BETA of size 36", k, () -> k.rule(BETA, to15, 0, 0));

        Traced grows = new Traced(32, 8);
        int g = grows.mkVar(1, 3);
        int q = grows.mkVar(1, 0);
        int both = grows.mkAbs(q, Due.equation(grows, q, Due.equation(grows, q, q)));
        int t = grows.mkComb(both, Due.chain(grows, g, q, 8));
        Due.is("size before it grows", grows.termSize(t), 28);
        Due.refused("R_BETA of which the result alone is too large", grows,
                () -> grows.rule(BETA, t, 0, 0));
    }

    private static void normWithoutRedex() {
        Traced k = new Traced(32, 8);
        int f = k.mkVar(0, 3);
        int p = k.mkVar(0, 0);
        int id = k.mkAbs(p, p);
        Due.is("R_BETA_NORM of p", k.rule(NORM, p, 0, 0), 0);
        Due.part("p = p", k, 0, 0, Due.COMB, Due.COMB, Due.eq(0), Due.var(0, 0), Due.var(0, 0));
        Due.is("R_BETA_NORM of \\p. p", k.rule(NORM, id, 0, 0), 1);
        Due.part("(\\p. p) = (\\p. p)", k, 1, 0, Due.COMB, Due.COMB, Due.eq(3), Due.abs(0),
                Due.bound(0, 0), Due.abs(0), Due.bound(0, 0));
        int t13 = Due.chain(k, f, p, 6);
        int t15 = k.mkComb(f, t13);
        Due.is("R_BETA_NORM of size 13", k.thmSize(k.rule(NORM, t13, 0, 0), 0), 29);
        Due.refused("R_BETA_NORM of size 15", k, () -> k.rule(NORM, t15, 0, 0));
    }

    private static void normStepByStep() {
        Traced k = new Traced(32, 8);
        int x = k.mkVar(0, 1);
        int y = k.mkVar(1, 1);
        int aa = k.mkFun(1, 1);
        int f = k.mkVar(2, aa);
        int two = k.mkAbs(f, k.mkAbs(x, k.mkComb(f, k.mkComb(f, x))));
        int id = k.mkAbs(x, x);
        // 2 (2 (\x. x)) y contracts ten times and never has more than 23 nodes.
        int t = k.mkComb(k.mkComb(two, k.mkComb(two, id)), y);
        Due.is("size of 2 (2 I) y", k.termSize(t), 20);
        Due.is("R_BETA_NORM of 2 (2 I) y", k.rule(NORM, t, 0, 0), 0);
        Due.is("its hypotheses", k.hypCount(0), 0);
        Due.is("its size", k.thmSize(0, 0), 24);
        Due.is("its type", k.thmNode(0, 0, 2), Due.eq(1));
        Due.is("the term stays on the left", k.thmNode(0, 0, 4), Due.COMB);
        Due.is("the normal form", k.thmNode(0, 0, 23), Due.var(1, 1));
        int twice = k.mkComb(two, f);
        Due.is("R_BETA_NORM of 2 f", k.rule(NORM, twice, 0, 0), 1);
        Due.part("2 f", k, 1, 0, Due.COMB, Due.COMB, Due.eq(aa), Due.COMB, Due.abs(aa),
                Due.abs(1), Due.COMB, Due.bound(1, aa), Due.COMB, Due.bound(1, aa),
                Due.bound(0, 1), Due.var(2, aa),
                Due.abs(1), Due.COMB, Due.var(2, aa), Due.COMB, Due.var(2, aa), Due.bound(0, 1));
        int longest = chainOfIdentities(k);
        Due.is("a normal form after eight steps", k.thmNode(longest, 0, k.thmSize(longest, 0) - 1),
                Due.var(1, 1));
    }

    private static int chainOfIdentities(Traced k) {
        int x = k.mkVar(0, 1);
        int y = k.mkVar(1, 1);
        int id = k.mkAbs(x, x);
        return k.rule(NORM, Due.chain(k, id, y, 8), 0, 0);
    }

    private static void normLifts() {
        Traced k = new Traced(32, 8);
        int p = k.mkVar(0, 0);
        int q = k.mkVar(1, 0);
        int r = k.mkVar(2, 0);
        int g = k.mkVar(3, 4);
        // \p. (\q. \r. g q p) (g p p): p in the body comes nearer, p in the argument goes deeper.
        int body = k.mkAbs(r, k.mkComb(k.mkComb(g, q), p));
        int arg = k.mkComb(k.mkComb(g, p), p);
        int t = k.mkAbs(p, k.mkComb(k.mkAbs(q, body), arg));
        Due.is("R_BETA_NORM under an ABS", k.rule(NORM, t, 0, 0), 0);
        int[] nodes = {Due.abs(0), Due.abs(0), Due.COMB, Due.COMB, Due.var(3, 4), Due.COMB,
            Due.COMB, Due.var(3, 4), Due.bound(1, 0), Due.bound(1, 0), Due.bound(1, 0)};
        endsWith("\\p. \\r. g (g p p) p", k, 0, nodes);

        // The argument has an ABS of its own: what it binds stays, what is outside goes deeper.
        int h = k.mkVar(4, k.mkFun(3, 3));
        int f = k.mkVar(5, 3);
        int inner = k.mkAbs(r, k.mkComb(k.mkComb(g, r), p));
        int takes = k.mkAbs(f, k.mkAbs(q, k.mkComb(k.mkComb(h, f), p)));
        int t2 = k.mkAbs(p, k.mkComb(takes, inner));
        Due.is("R_BETA_NORM with an ABS in the argument", k.rule(NORM, t2, 0, 0), 1);
        int hType = k.mkFun(3, 3);
        endsWith("\\p. \\q. h (\\r. g r p) p", k, 1, new int[] {Due.abs(0), Due.abs(0), Due.COMB,
            Due.COMB, Due.var(4, hType), Due.abs(0), Due.COMB, Due.COMB, Due.var(3, 4),
            Due.bound(0, 0), Due.bound(2, 0), Due.bound(1, 0)});
    }

    private static void endsWith(String what, Traced k, int th, int[] nodes) {
        int from = k.thmSize(th, 0) - nodes.length;
        for (int i = 0; i < nodes.length; i++) {
            Due.is(what + ", node " + i, k.thmNode(th, 0, from + i), nodes[i]);
        }
    }

    private static void normOrder() {
        Traced k = new Traced(32, 8);
        int f = k.mkVar(0, 3);
        int p = k.mkVar(1, 0);
        int x = k.mkVar(2, 0);
        // The argument would grow over MAX_SIZE, but the leftmost redex throws it away first.
        int both = k.mkAbs(p, Due.equation(k, p, Due.equation(k, p, p)));
        int grows = k.mkComb(both, Due.chain(k, f, x, 5));
        Due.is("size of the growing argument", k.termSize(grows), 22);
        int t = k.mkComb(k.mkAbs(p, x), grows);
        int growsTwice = k.mkComb(both, grows);
        Due.is("R_BETA_NORM throws it away", k.rule(NORM, t, 0, 0), 0);
        Due.is("the normal form", k.thmNode(0, 0, k.thmSize(0, 0) - 1), Due.var(2, 0));
        Due.refused("R_BETA_NORM of the growing argument", k, () -> k.rule(NORM, grows, 0, 0));
        Due.is("a term too large to make", growsTwice, -1);
    }

    private static void normIntermediateSize() {
        Traced k = new Traced(32, 8);
        int x = k.mkVar(0, 1);
        int aa = k.mkFun(1, 1);
        int f = k.mkVar(1, aa);
        int gType = k.mkFun(aa, aa);
        int g = k.mkVar(2, gType);
        int two = k.mkAbs(f, k.mkAbs(x, k.mkComb(f, k.mkComb(f, x))));
        int twoUp = k.mkAbs(g, k.mkAbs(f, k.mkComb(g, k.mkComb(g, f))));
        int id = k.mkAbs(x, x);
        // 2 2 2 I y with y = normal form: 28 + 1 + 3 nodes would fit, a term between has 36.
        int top = k.mkFun(gType, gType);
        int h = k.mkVar(3, top);
        int twoTop = k.mkAbs(h, k.mkAbs(g, k.mkComb(h, k.mkComb(h, g))));
        int t = k.mkComb(k.mkComb(k.mkComb(k.mkComb(twoTop, twoUp), two), id), x);
        Due.is("size of 2 2 2 I y", k.termSize(t), 28);
        Due.refused("R_BETA_NORM, a term between is too large", k, () -> k.rule(NORM, t, 0, 0));
        int fits = k.mkComb(k.mkComb(k.mkComb(twoUp, two), id), x);
        Due.is("R_BETA_NORM of 2 2 I y", k.rule(NORM, fits, 0, 0), 0);
        Due.is("its size", k.thmSize(0, 0), 24);
    }

    private static void normEdges() {
        Traced k = new Traced(32, 8);
        int f = k.mkVar(0, 3);
        int p = k.mkVar(0, 0);
        int id = k.mkAbs(p, p);
        int t13 = Due.chain(k, f, p, 6);
        int t16 = k.mkComb(id, t13);
        Due.is("R_BETA_NORM of size 32", k.rule(NORM, t16, 0, 0), 0);
        Due.is("its size", k.thmSize(0, 0), 32);
        int t19 = k.mkComb(id, t16);
        Due.refused("R_BETA_NORM of size 35", k, () -> k.rule(NORM, t19, 0, 0));
    }

    private static void normIntermediateEdges() {
        Traced k = new Traced(32, 8);
        int f = k.mkVar(0, 3);
        int p = k.mkVar(1, 0);
        int x = k.mkVar(2, 0);
        int t13 = Due.chain(k, f, p, 6);
        int xx = Due.equation(k, x, x);
        // (\x. (\y. p) (x = x)) t13: the step between has 32 nodes, the normal form has one.
        int constant = k.mkAbs(x, p);
        int fits = k.mkComb(k.mkAbs(x, k.mkComb(constant, xx)), t13);
        Due.is("R_BETA_NORM over 32 nodes", k.rule(NORM, fits, 0, 0), 0);
        Due.is("its size", k.thmSize(0, 0), 27);
        // With one ABS more the step between has 33.
        int longer = k.mkAbs(x, constant);
        int over = k.mkComb(k.mkAbs(x, k.mkComb(longer, xx)), t13);
        Due.refused("R_BETA_NORM over 33 nodes", k, () -> k.rule(NORM, over, 0, 0));
    }

    private static void typesOfBoth() {
        for (int kind : new int[] {BETA, NORM}) {
            Traced k = new Traced(16, 8);
            int x = k.mkVar(0, 1);
            int redex = k.mkComb(k.mkAbs(x, x), x);
            Due.is("types before rule " + kind, k.typeCount(), 6);
            Due.is("rule " + kind, k.rule(kind, redex, 0, 0), 0);
            Due.same("types after rule " + kind, Due.types(k),
                    "types 8 -1>-1 -1>-1 -1>-1 0>0 0>3 1>1 1>0 1>6");

            Traced full = new Traced(16, 8);
            int y = full.mkVar(0, 1);
            int other = full.mkComb(full.mkAbs(y, y), y);
            Due.fillTypes(full, 47);
            Due.refused("rule " + kind + ", room for one of two types", full,
                    () -> full.rule(kind, other, 0, 0));
        }
    }
}
