/** Promise 12: R_REFL, R_TRANS, R_MK_COMB and R_ABS. */
public final class EquationRulesTest {
    private static final int REFL = HolKernel.R_REFL;
    private static final int TRANS = HolKernel.R_TRANS;
    private static final int MK_COMB = HolKernel.R_MK_COMB;
    private static final int ABS = HolKernel.R_ABS;
    private static final int ASSUME = HolKernel.R_ASSUME;

    public static void main(String[] args) {
        refl();
        reflEdges();
        trans();
        transWrongShapes();
        transEdges();
        mkComb();
        mkCombWrongShapes();
        mkCombEdges();
        abs();
        absOfHypotheses();
        absWrongShapes();
        absEdges();
        absTypes();
        Due.end();
    }

    private static void refl() {
        Traced k = new Traced(8, 4);
        int x = k.mkVar(3, 1);
        Due.is("R_REFL of x", k.rule(REFL, x, 0, 0), 0);
        Due.is("hypotheses of x = x", k.hypCount(0), 0);
        Due.part("x = x", k, 0, 0, Due.COMB, Due.COMB, Due.eq(1), Due.var(3, 1), Due.var(3, 1));
        Due.same("types after R_REFL", Due.types(k), "types 7 -1>-1 -1>-1 -1>-1 0>0 0>3 1>0 1>5");
        int eq = k.mkEq(0);
        Due.is("R_REFL of EQ(BOOL)", k.rule(REFL, eq, 0, 0), 1);
        Due.part("EQ = EQ", k, 1, 0, Due.COMB, Due.COMB, Due.eq(4), Due.eq(0), Due.eq(0));
        Due.is("typeCount() after it", k.typeCount(), 9);
    }

    private static void reflEdges() {
        Traced k = new Traced(32, 4);
        int f = k.mkVar(0, 3);
        int p = k.mkVar(0, 0);
        int t13 = Due.chain(k, f, p, 6);
        int t14 = k.mkAbs(p, t13);
        int t15 = k.mkComb(f, t13);
        Due.is("R_REFL of size 14", k.rule(REFL, t14, 0, 0), 0);
        Due.is("its size", k.thmSize(0, 0), 31);
        Due.refused("R_REFL of size 15", k, () -> k.rule(REFL, t15, 0, 0));
        int x15 = k.mkAbs(k.mkVar(0, 1), t14);
        Due.refused("R_REFL of size 15, new types", k, () -> k.rule(REFL, x15, 0, 0));

        Traced full = new Traced(8, 4);
        Due.fillTypes(full, 47);
        int a = full.mkVar(0, 1);
        int b = full.mkVar(0, 0);
        Due.refused("R_REFL, room for one of two types", full, () -> full.rule(REFL, a, 0, 0));
        full.mkFun(1, 0);
        Due.refused("R_REFL, one of two types is there", full, () -> full.rule(REFL, a, 0, 0));
        Due.is("R_REFL, types are there", full.rule(REFL, b, 0, 0), 0);

        Traced last = new Traced(8, 4);
        Due.fillTypes(last, 46);
        int c = last.mkVar(0, 1);
        Due.is("R_REFL, room for just its types", last.rule(REFL, c, 0, 0), 0);
        Due.is("typeCount() after it", last.typeCount(), 48);
    }

    private static void trans() {
        Traced k = new Traced(32, 16);
        int x = k.mkVar(0, 1);
        int y = k.mkVar(1, 1);
        int z = k.mkVar(2, 1);
        int xy = Due.equation(k, x, y);
        int yz = Due.equation(k, y, z);
        int xz = Due.equation(k, x, z);
        int first = k.rule(ASSUME, xy, 0, 0);
        int second = k.rule(ASSUME, yz, 0, 0);
        int third = k.rule(TRANS, first, second, 0);
        Due.is("R_TRANS", third, 2);
        Due.is("conclusion x = z", k.thmPartIs(third, 0, xz), true);
        Due.is("two hypotheses", k.hypCount(third), 2);
        Due.is("first hypothesis", k.thmPartIs(third, 1, xy), true);
        Due.is("second hypothesis", k.thmPartIs(third, 2, yz), true);
        Due.refused("R_TRANS, middle terms differ", k, () -> k.rule(TRANS, second, first, 0));
        Due.refused("R_TRANS of x = y and x = y", k, () -> k.rule(TRANS, first, first, 0));
        int same = k.rule(REFL, x, 0, 0);
        int twice = k.rule(TRANS, same, same, 0);
        Due.part("x = x, x = x", k, twice, 0, Due.COMB, Due.COMB, Due.eq(1), Due.var(0, 1),
                Due.var(0, 1));
        int once = k.rule(TRANS, same, third, 0);
        Due.is("x = x, x = z", k.thmPartIs(once, 0, xz), true);
        Due.is("the same hypotheses stay two", k.hypCount(k.rule(TRANS, same, third, 0)), 2);
    }

    private static void transWrongShapes() {
        Traced k = new Traced(32, 16);
        int p = k.mkVar(0, 0);
        int g = k.mkVar(1, 4);
        int gpp = k.mkComb(k.mkComb(g, p), p);
        int f = k.mkVar(2, 3);
        int fp = k.mkComb(f, p);
        int redex = k.mkComb(k.mkAbs(p, p), p);
        int ofEq = k.mkComb(k.mkVar(3, k.mkFun(4, 0)), k.mkEq(0));
        int same = k.rule(REFL, p, 0, 0);
        for (int t : new int[] {p, gpp, fp, redex, ofEq}) {
            int thm = k.rule(ASSUME, t, 0, 0);
            Due.refused("R_TRANS a of term " + t, k, () -> k.rule(TRANS, thm, same, 0));
            Due.refused("R_TRANS b of term " + t, k, () -> k.rule(TRANS, same, thm, 0));
            Due.refused("R_MK_COMB a of term " + t, k, () -> k.rule(MK_COMB, thm, same, 0));
            Due.refused("R_ABS a of term " + t, k, () -> k.rule(ABS, thm, f, 0));
        }
        // The left side of one begins like the whole of the other, but goes on.
        int long1 = k.rule(REFL, fp, 0, 0);
        Due.refused("R_TRANS of f p = f p and p = p", k, () -> k.rule(TRANS, long1, same, 0));
        Due.refused("R_TRANS of p = p and f p = f p", k, () -> k.rule(TRANS, same, long1, 0));
    }

    private static void transEdges() {
        Traced k = new Traced(32, 16);
        int f = k.mkVar(0, 3);
        int p = k.mkVar(1, 0);
        int q = k.mkVar(0, 0);
        int t11 = Due.chain(k, f, p, 5);
        int t14 = k.mkComb(k.mkAbs(p, p), t11);
        int t15 = Due.chain(k, f, t11, 2);
        Due.is("size of t14", k.termSize(t14), 14);
        Due.is("size of t15", k.termSize(t15), 15);
        int from15 = k.rule(ASSUME, Due.equation(k, t15, q), 0, 0);
        int to14 = k.rule(ASSUME, Due.equation(k, q, t14), 0, 0);
        int to15 = k.rule(ASSUME, Due.equation(k, q, t15), 0, 0);
        Due.refused("R_TRANS of size 33", k, () -> k.rule(TRANS, from15, to15, 0));
        int made = k.rule(TRANS, from15, to14, 0);
        Due.is("R_TRANS of size 32", made, 3);
        Due.is("its size", k.thmSize(made, 0), 32);
        Due.is("its last node", k.thmNode(made, 0, 31), Due.var(1, 0));
    }

    private static void mkComb() {
        Traced k = new Traced(32, 16);
        int ab = k.mkFun(1, 2);
        int f = k.mkVar(0, ab);
        int g = k.mkVar(1, ab);
        int x = k.mkVar(0, 1);
        int y = k.mkVar(1, 1);
        int fg = Due.equation(k, f, g);
        int xy = Due.equation(k, x, y);
        int functions = k.rule(ASSUME, fg, 0, 0);
        int arguments = k.rule(ASSUME, xy, 0, 0);
        int types = k.typeCount();
        int made = k.rule(MK_COMB, functions, arguments, 0);
        Due.is("R_MK_COMB", made, 2);
        Due.part("f x = g y", k, made, 0, Due.COMB, Due.COMB, Due.eq(2), Due.COMB, Due.var(0, ab),
                Due.var(0, 1), Due.COMB, Due.var(1, ab), Due.var(1, 1));
        Due.is("typeCount() after it", k.typeCount(), types + 2);
        Due.is("the new fun(B,BOOL)", k.mkFun(2, 0), types);
        Due.is("the new fun(B,fun(B,BOOL))", k.mkFun(2, types), types + 1);
        Due.is("two hypotheses", k.hypCount(made), 2);
        Due.is("first hypothesis", k.thmPartIs(made, 1, xy), true);
        Due.is("second hypothesis", k.thmPartIs(made, 2, fg), true);
        Due.refused("R_MK_COMB the other way", k, () -> k.rule(MK_COMB, arguments, functions, 0));
        Due.refused("R_MK_COMB of f = g twice", k, () -> k.rule(MK_COMB, functions, functions, 0));
    }

    private static void mkCombWrongShapes() {
        Traced k = new Traced(32, 16);
        int f = k.mkVar(0, k.mkFun(1, 2));
        int p = k.mkVar(0, 0);
        int b = k.mkVar(0, 2);
        int functions = k.rule(REFL, f, 0, 0);
        int wrongType = k.rule(REFL, b, 0, 0);
        int noFunction = k.rule(REFL, p, 0, 0);
        int noEquation = k.rule(ASSUME, p, 0, 0);
        Due.refused("R_MK_COMB, wrong type", k, () -> k.rule(MK_COMB, functions, wrongType, 0));
        Due.refused("R_MK_COMB, no function", k, () -> k.rule(MK_COMB, noFunction, noFunction, 0));
        Due.refused("R_MK_COMB, b no equation", k,
                () -> k.rule(MK_COMB, functions, noEquation, 0));
        Due.refused("R_MK_COMB, a no equation", k, () -> k.rule(MK_COMB, noEquation, functions, 0));
    }

    private static void mkCombEdges() {
        Traced k = new Traced(32, 16);
        int ff = k.mkVar(0, 3);
        int p = k.mkVar(0, 0);
        int t11 = Due.chain(k, ff, p, 5);
        int functions = k.rule(REFL, ff, 0, 0);
        int arguments = k.rule(REFL, t11, 0, 0);
        int made = k.rule(MK_COMB, functions, arguments, 0);
        Due.is("size 29 of R_MK_COMB", k.thmSize(made, 0), 29);
        Due.refused("R_MK_COMB of size 33", k, () -> k.rule(MK_COMB, functions, made, 0));
        int t12 = k.mkComb(k.mkAbs(p, p), Due.chain(k, ff, p, 4));
        int uneven = k.rule(ASSUME, Due.equation(k, t11, t12), 0, 0);
        int t13 = Due.chain(k, ff, t11, 1);
        int more = k.rule(ASSUME, Due.equation(k, t13, t12), 0, 0);
        Due.is("size 30 of R_MK_COMB", k.thmSize(k.rule(MK_COMB, functions, uneven, 0), 0), 30);
        Due.is("size 32 of R_MK_COMB", k.thmSize(k.rule(MK_COMB, functions, more, 0), 0), 32);

        Traced full = new Traced(8, 8);
        int ab = full.mkFun(1, 2);
        int f = full.mkVar(0, ab);
        int x = full.mkVar(0, 1);
        full.rule(REFL, f, 0, 0);
        full.rule(REFL, x, 0, 0);
        Due.fillTypes(full, 47);
        Due.refused("R_MK_COMB, room for one of two types", full,
                () -> full.rule(MK_COMB, 0, 1, 0));
        full.mkFun(2, 0);
        Due.refused("R_MK_COMB, room for no type", full, () -> full.rule(MK_COMB, 0, 1, 0));
    }

    private static void abs() {
        Traced k = new Traced(32, 16);
        int x = k.mkVar(4, 1);
        int y = k.mkVar(5, 1);
        int redex = k.mkComb(k.mkAbs(x, x), y);
        int beta = k.rule(HolKernel.R_BETA, redex, 0, 0);
        int types = k.typeCount();
        int aa = k.mkFun(1, 1);
        int made = k.rule(ABS, beta, y, 0);
        Due.part("(\\y. (\\x. x) y) = (\\y. y)", k, made, 0, Due.COMB, Due.COMB, Due.eq(aa),
                Due.abs(1), Due.COMB, Due.abs(1), Due.bound(0, 1), Due.bound(0, 1), Due.abs(1),
                Due.bound(0, 1));
        Due.is("types of it", k.typeCount(), types + 2);
        int missing = k.rule(ABS, beta, x, 0);
        Due.part("the variable need not occur", k, missing, 0, Due.COMB, Due.COMB, Due.eq(aa),
                Due.abs(1), Due.COMB, Due.abs(1), Due.bound(0, 1), Due.var(5, 1), Due.abs(1),
                Due.var(5, 1));
        int inner = k.rule(HolKernel.R_REFL, k.mkAbs(x, Due.equation(k, x, y)), 0, 0);
        int deep = k.rule(ABS, inner, y, 0);
        int ab = k.mkFun(1, 0);
        int both = k.mkFun(1, ab);
        Due.part("y under one more ABS", k, deep, 0, Due.COMB, Due.COMB, Due.eq(both),
                Due.abs(1), Due.abs(1), Due.COMB, Due.COMB, Due.eq(1), Due.bound(0, 1),
                Due.bound(1, 1), Due.abs(1), Due.abs(1), Due.COMB, Due.COMB, Due.eq(1),
                Due.bound(0, 1), Due.bound(1, 1));
    }

    private static void absOfHypotheses() {
        Traced k = new Traced(32, 16);
        int x = k.mkVar(4, 1);
        int y = k.mkVar(5, 1);
        int sameId = k.mkVar(4, 2);
        int other = k.mkVar(6, 1);
        int xy = Due.equation(k, x, y);
        int assumed = k.rule(ASSUME, xy, 0, 0);
        Due.refused("R_ABS of x in x = y |- x = y", k, () -> k.rule(ABS, assumed, x, 0));
        Due.refused("R_ABS of y in x = y |- x = y", k, () -> k.rule(ABS, assumed, y, 0));
        int made = k.rule(ABS, assumed, other, 0);
        Due.is("R_ABS of z in x = y |- x = y", made, 1);
        Due.is("its hypotheses", k.hypCount(made), 1);
        Due.is("its hypothesis", k.thmPartIs(made, 1, xy), true);
        int again = k.rule(ABS, assumed, sameId, 0);
        Due.is("R_ABS of x at another type", again, 2);
        Due.is("its first ABS node", k.thmNode(again, 0, 3), Due.abs(2));
        Due.is("its first variable", k.thmNode(again, 0, 4), Due.var(4, 1));

        // z stands in the second of two hypotheses only.
        int p = k.mkVar(0, 0);
        int q = k.mkVar(1, 0);
        int hypP = k.rule(ASSUME, p, 0, 0);
        int hypQ = k.rule(ASSUME, q, 0, 0);
        int both = k.rule(HolKernel.R_DEDUCT_ANTISYM, hypP, hypQ, 0);
        Due.refused("R_ABS of q in p, q |- p = q", k, () -> k.rule(ABS, both, q, 0));
        Due.refused("R_ABS of p in p, q |- p = q", k, () -> k.rule(ABS, both, p, 0));
        int kept = k.rule(ABS, both, x, 0);
        Due.is("hypotheses of R_ABS", k.hypCount(kept), 2);
        Due.is("first of them", k.thmPartIs(kept, 1, p), true);
        Due.is("second of them", k.thmPartIs(kept, 2, q), true);
    }

    private static void absWrongShapes() {
        Traced k = new Traced(32, 16);
        int p = k.mkVar(0, 0);
        int eq = k.mkEq(0);
        int comb = k.mkComb(eq, p);
        int abs = k.mkAbs(p, p);
        int same = k.rule(REFL, p, 0, 0);
        Due.refused("R_ABS, b is EQ", k, () -> k.rule(ABS, same, eq, 0));
        Due.refused("R_ABS, b is COMB", k, () -> k.rule(ABS, same, comb, 0));
        Due.refused("R_ABS, b is ABS", k, () -> k.rule(ABS, same, abs, 0));
        int noEquation = k.rule(ASSUME, p, 0, 0);
        int x = k.mkVar(0, 1);
        Due.refused("R_ABS, a is no equation", k, () -> k.rule(ABS, noEquation, x, 0));
    }

    private static void absEdges() {
        Traced k = new Traced(32, 16);
        int f = k.mkVar(0, 3);
        int p = k.mkVar(1, 0);
        int t13 = Due.chain(k, f, p, 6);
        int t14 = k.mkComb(k.mkAbs(p, p), Due.chain(k, f, p, 5));
        int t15 = k.mkComb(f, t13);
        int x = k.mkVar(0, 1);
        int even = k.rule(ASSUME, Due.equation(k, t13, t14), 0, 0);
        Due.is("R_ABS of size 32", k.thmSize(k.rule(ABS, even, x, 0), 0), 32);
        int odd = k.rule(ASSUME, Due.equation(k, t13, t15), 0, 0);
        int b = k.mkVar(0, 2);
        Due.refused("R_ABS of size 33", k, () -> k.rule(ABS, odd, x, 0));
        Due.refused("R_ABS of size 33, new types", k, () -> k.rule(ABS, odd, b, 0));
    }

    private static void absTypes() {
        for (int known = 0; known <= 3; known++) {
            for (int room = 0; room <= 3; room++) {
                Traced k = new Traced(8, 8);
                int p = k.mkVar(0, 0);
                int x = k.mkVar(0, 1);
                int same = k.rule(REFL, p, 0, 0);
                // The three types: fun(A,BOOL) and EQTYPES of it.
                int first = known > 0 ? k.mkFun(1, 0) : -1;
                int second = known > 1 ? k.mkFun(first, 0) : -1;
                if (known > 2) {
                    k.mkFun(first, second);
                }
                Due.fillTypes(k, 48 - room);
                String what = "R_ABS, " + known + " types known, room for " + room;
                if (known + room < 3) {
                    Due.refused(what, k, () -> k.rule(ABS, same, x, 0));
                } else {
                    Due.is(what, k.rule(ABS, same, x, 0), 1);
                    Due.is(what + ", typeCount()", k.typeCount(), 48 - room + 3 - known);
                    first = k.mkFun(1, 0);
                    Due.is(what + ", EQ", k.thmNode(1, 0, 2), Due.eq(first));
                    second = k.mkFun(first, 0);
                    Due.is(what + ", order of the types", first < second, true);
                    Due.is(what + ", the third type", k.mkFun(first, second) > second, true);
                }
            }
        }
    }
}
