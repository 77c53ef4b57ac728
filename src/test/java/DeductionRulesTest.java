/** Promise 12: R_ASSUME, R_EQ_MP, R_DEDUCT_ANTISYM and R_INST, and the order of hypotheses. */
public final class DeductionRulesTest {
    private static final int ASSUME = HolKernel.R_ASSUME;
    private static final int EQ_MP = HolKernel.R_EQ_MP;
    private static final int DEDUCT = HolKernel.R_DEDUCT_ANTISYM;
    private static final int INST = HolKernel.R_INST;

    public static void main(String[] args) {
        assume();
        eqMp();
        eqMpWrongShapes();
        eqMpHypotheses();
        deduct();
        deductRemoves();
        deductEdges();
        orderOfHypotheses();
        mostHypotheses();
        inst();
        instUnderAbs();
        instUnites();
        instSortsAgain();
        instWrongShapes();
        instEdges();
        Due.end();
    }

    private static void assume() {
        Traced k = new Traced(32, 8);
        int p = k.mkVar(7, 0);
        int f = k.mkVar(0, 3);
        int a = k.mkVar(0, 1);
        int fp = k.mkComb(f, p);
        Due.is("R_ASSUME of f p", k.rule(ASSUME, fp, 0, 0), 0);
        Due.is("its hypotheses", k.hypCount(0), 1);
        Due.part("conclusion", k, 0, 0, Due.COMB, Due.var(0, 3), Due.var(7, 0));
        Due.part("hypothesis", k, 0, 1, Due.COMB, Due.var(0, 3), Due.var(7, 0));
        Due.refused("R_ASSUME of type A", k, () -> k.rule(ASSUME, a, 0, 0));
        Due.refused("R_ASSUME of a function", k, () -> k.rule(ASSUME, f, 0, 0));
        int t15 = Due.chain(k, f, p, 7);
        int t32 = k.mkComb(k.mkAbs(p, t15), t15);
        Due.is("R_ASSUME of size 32", k.rule(ASSUME, t32, 0, 0), 1);
        Due.is("size of its conclusion", k.thmSize(1, 0), 32);
        Due.is("size of its hypothesis", k.thmSize(1, 1), 32);
    }

    private static void eqMp() {
        Traced k = new Traced(32, 8);
        int p = k.mkVar(0, 0);
        int q = k.mkVar(1, 0);
        int pq = Due.equation(k, p, q);
        int equation = k.rule(ASSUME, pq, 0, 0);
        int premise = k.rule(ASSUME, p, 0, 0);
        int made = k.rule(EQ_MP, equation, premise, 0);
        Due.is("R_EQ_MP", made, 2);
        Due.is("conclusion", k.thmPartIs(made, 0, q), true);
        Due.is("hypotheses", k.hypCount(made), 2);
        Due.is("first hypothesis", k.thmPartIs(made, 1, p), true);
        Due.is("second hypothesis", k.thmPartIs(made, 2, pq), true);
        int other = k.rule(ASSUME, q, 0, 0);
        Due.refused("R_EQ_MP with the right side", k, () -> k.rule(EQ_MP, equation, other, 0));
        Due.refused("R_EQ_MP the other way", k, () -> k.rule(EQ_MP, premise, equation, 0));
    }

    private static void eqMpWrongShapes() {
        Traced k = new Traced(32, 16);
        int p = k.mkVar(0, 0);
        int f = k.mkVar(0, 3);
        int fp = k.mkComb(f, p);
        int g = k.mkVar(0, 4);
        int gpp = k.mkComb(k.mkComb(g, p), p);
        int premise = k.rule(ASSUME, p, 0, 0);
        int noEquation = k.rule(ASSUME, gpp, 0, 0);
        Due.refused("R_EQ_MP, g p p is no equation", k,
                () -> k.rule(EQ_MP, noEquation, premise, 0));
        int longer = k.rule(HolKernel.R_REFL, fp, 0, 0);
        Due.refused("R_EQ_MP, f p is not p", k, () -> k.rule(EQ_MP, longer, premise, 0));
        int functions = k.rule(HolKernel.R_REFL, f, 0, 0);
        Due.refused("R_EQ_MP, sides of type fun", k, () -> k.rule(EQ_MP, functions, premise, 0));
        int same = k.rule(HolKernel.R_REFL, p, 0, 0);
        Due.refused("R_EQ_MP of one theorem twice", k, () -> k.rule(EQ_MP, same, same, 0));
    }

    private static void eqMpHypotheses() {
        Traced k = new Traced(32, 16);
        int p = k.mkVar(0, 0);
        int q = k.mkVar(1, 0);
        int hypP = k.rule(ASSUME, p, 0, 0);
        int hypQ = k.rule(ASSUME, q, 0, 0);
        int both = k.rule(DEDUCT, hypQ, hypP, 0);
        int made = k.rule(EQ_MP, both, hypQ, 0);
        Due.is("a hypothesis of both stands once", k.hypCount(made), 2);
        Due.is("conclusion", k.thmPartIs(made, 0, p), true);
        Due.is("first", k.thmPartIs(made, 1, p), true);
        Due.is("second", k.thmPartIs(made, 2, q), true);
    }

    private static void deduct() {
        Traced k = new Traced(32, 16);
        int p = k.mkVar(0, 0);
        int q = k.mkVar(1, 0);
        String types = Due.types(k);
        int hypP = k.rule(ASSUME, p, 0, 0);
        int hypQ = k.rule(ASSUME, q, 0, 0);
        int made = k.rule(DEDUCT, hypQ, hypP, 0);
        Due.part("q = p", k, made, 0, Due.COMB, Due.COMB, Due.eq(0), Due.var(1, 0), Due.var(0, 0));
        Due.is("hypotheses", k.hypCount(made), 2);
        Due.is("first", k.thmPartIs(made, 1, p), true);
        Due.is("second", k.thmPartIs(made, 2, q), true);
        int self = k.rule(DEDUCT, hypP, hypP, 0);
        Due.part("p = p", k, self, 0, Due.COMB, Due.COMB, Due.eq(0), Due.var(0, 0), Due.var(0, 0));
        Due.is("p goes from both", k.hypCount(self), 0);
        Due.same("types stay", Due.types(k), types);
    }

    private static void deductRemoves() {
        Traced k = new Traced(32, 16);
        int p = k.mkVar(0, 0);
        int q = k.mkVar(1, 0);
        int pq = Due.equation(k, p, q);
        int hypP = k.rule(ASSUME, p, 0, 0);
        int equation = k.rule(ASSUME, pq, 0, 0);
        // p, p = q |- q
        int thenQ = k.rule(EQ_MP, equation, hypP, 0);
        // (p, p = q without p) and (p without q): b keeps p, for its conclusion is what a loses.
        int first = k.rule(DEDUCT, thenQ, hypP, 0);
        Due.is("q = p keeps p of b", k.hypCount(first), 2);
        // Only a hypothesis equal to the other theorem's conclusion goes.
        int hypQ = k.rule(ASSUME, q, 0, 0);
        int second = k.rule(DEDUCT, hypQ, thenQ, 0);
        Due.part("q = q", k, second, 0, Due.COMB, Due.COMB, Due.eq(0), Due.var(1, 0),
                Due.var(1, 0));
        Due.is("q goes from a", k.hypCount(second), 2);
        Due.is("p stays", k.thmPartIs(second, 1, p), true);
        Due.is("p = q stays", k.thmPartIs(second, 2, pq), true);
        int third = k.rule(DEDUCT, thenQ, hypQ, 0);
        Due.is("q goes from b", k.hypCount(third), 2);
        int fourth = k.rule(DEDUCT, equation, thenQ, 0);
        Due.is("p = q goes from b, stays in a", k.hypCount(fourth), 2);
        int known = k.rule(HolKernel.R_REFL, p, 0, 0);
        int fifth = k.rule(DEDUCT, known, hypP, 0);
        Due.is("p stays where p = p is concluded", k.hypCount(fifth), 1);
        Due.is("and is p", k.thmPartIs(fifth, 1, p), true);
    }

    private static void deductEdges() {
        Traced k = new Traced(32, 16);
        int f = k.mkVar(0, 3);
        int p = k.mkVar(0, 0);
        int t13 = Due.chain(k, f, p, 6);
        int t15 = k.mkComb(f, t13);
        int t16 = k.mkComb(k.mkAbs(p, p), t13);
        int hyp13 = k.rule(ASSUME, t13, 0, 0);
        int hyp15 = k.rule(ASSUME, t15, 0, 0);
        int hyp16 = k.rule(ASSUME, t16, 0, 0);
        Due.is("R_DEDUCT of size 32", k.thmSize(k.rule(DEDUCT, hyp13, hyp16, 0), 0), 32);
        Due.refused("R_DEDUCT of size 33", k, () -> k.rule(DEDUCT, hyp15, hyp15, 0));
        Due.refused("R_DEDUCT of size 34", k, () -> k.rule(DEDUCT, hyp15, hyp16, 0));
    }

    private static void orderOfHypotheses() {
        int count = 6;
        for (int i = 0; i < count; i++) {
            for (int j = 0; j < count; j++) {
                Traced k = new Traced(32, 16);
                int[] ascending = sixAscending(k);
                int a = k.rule(ASSUME, ascending[i], 0, 0);
                int b = k.rule(ASSUME, ascending[j], 0, 0);
                int both = k.rule(DEDUCT, a, b, 0);
                String what = " hypothesis of " + i + " and " + j;
                Due.is("number of" + what, k.hypCount(both), i == j ? 0 : 2);
                if (i != j) {
                    int least = ascending[Math.min(i, j)];
                    int most = ascending[Math.max(i, j)];
                    Due.is("first" + what, k.thmPartIs(both, 1, least), true);
                    Due.is("second" + what, k.thmPartIs(both, 2, most), true);
                }
            }
        }
    }

    /** p0, p1, f p1, g p0, p0 = p0 and (\p0. p0) p0: VAR before COMB VAR, COMB COMB, COMB ABS. */
    private static int[] sixAscending(Traced k) {
        int p0 = k.mkVar(0, 0);
        int p1 = k.mkVar(1, 0);
        int f = k.mkVar(0, 3);
        int g = k.mkVar(1, 3);
        int equation = Due.equation(k, p0, p0);
        int redex = k.mkComb(k.mkAbs(p0, p0), p0);
        return new int[] {p0, p1, k.mkComb(f, p1), k.mkComb(g, p0), equation, redex};
    }

    /** A kernel with p0 to p3 as terms 0 to 3, and p |- p of each as theorems 0 to 3. */
    private static Traced fourAssumed() {
        Traced k = new Traced(32, 16);
        for (int i = 0; i < 4; i++) {
            k.mkVar(i, 0);
        }
        for (int i = 0; i < 4; i++) {
            k.rule(ASSUME, i, 0, 0);
        }
        return k;
    }

    private static void mostHypotheses() {
        Traced k = fourAssumed();
        int[][] orders = {{0, 1, 2}, {0, 2, 1}, {1, 0, 2}, {1, 2, 0}, {2, 0, 1}, {2, 1, 0}};
        for (int[] order : orders) {
            Traced fresh = fourAssumed();
            int two = fresh.rule(DEDUCT, order[0], order[1], 0);
            int three = fresh.rule(DEDUCT, two, order[2], 0);
            Due.is("three hypotheses", fresh.hypCount(three), 3);
            for (int i = 0; i < 3; i++) {
                Due.is("hypothesis " + i, fresh.thmPartIs(three, i + 1, i), true);
            }
        }
        int two = k.rule(DEDUCT, 0, 1, 0);
        int three = k.rule(DEDUCT, two, 2, 0);
        Due.refused("four hypotheses by R_DEDUCT", k, () -> k.rule(DEDUCT, three, 3, 0));
        Due.refused("four hypotheses, the new one first", k, () -> k.rule(DEDUCT, 3, three, 0));
        int again = k.rule(DEDUCT, three, 1, 0);
        Due.is("three hypotheses and one of them again", k.hypCount(again), 3);
        int others = k.rule(DEDUCT, 2, 3, 0);
        Due.refused("two and two", k, () -> k.rule(DEDUCT, two, others, 0));
        // p0, p1, p2 |- (p0 = p1) = p2, and p0 = p1 on the left with hypotheses of its own.
        Due.is("R_EQ_MP with three", k.hypCount(k.rule(EQ_MP, three, two, 0)), 3);

        Traced m = fourAssumed();
        int p0p1 = m.rule(DEDUCT, 0, 1, 0);
        int p2p3 = m.rule(DEDUCT, 2, 3, 0);
        int p1p2 = m.rule(DEDUCT, 1, 2, 0);
        int p1p3 = m.rule(DEDUCT, 1, 3, 0);
        Due.is("R_TRANS with three", m.hypCount(m.rule(HolKernel.R_TRANS, p0p1, p1p2, 0)), 3);
        int p0p3 = m.rule(HolKernel.R_TRANS, p0p1, p1p3, 0);
        Due.refused("R_EQ_MP with four", m, () -> m.rule(EQ_MP, p2p3, p0p3, 0));
        int p0p2 = m.rule(HolKernel.R_TRANS, p0p1, p1p2, 0);
        Due.refused("R_TRANS with four", m, () -> m.rule(HolKernel.R_TRANS, p0p2, p2p3, 0));
    }

    private static void inst() {
        Traced k = new Traced(32, 16);
        int x = k.mkVar(0, 1);
        int y = k.mkVar(1, 1);
        int sameId = k.mkVar(0, 0);
        int f = k.mkVar(2, k.mkFun(1, 1));
        int fx = k.mkComb(f, x);
        int xy = Due.equation(k, x, y);
        int assumed = k.rule(ASSUME, xy, 0, 0);
        int made = k.rule(INST, assumed, x, fx);
        Due.is("R_INST", made, 1);
        int want = Due.equation(k, fx, y);
        Due.is("conclusion: x in the new term stays", k.thmPartIs(made, 0, want), true);
        Due.is("hypothesis as well", k.thmPartIs(made, 1, want), true);
        Due.is("hypotheses", k.hypCount(made), 1);
        int other = k.rule(INST, assumed, sameId, sameId);
        Due.is("x at another type is another variable", k.thmPartIs(other, 0, xy), true);
        int missing = k.rule(INST, assumed, k.mkVar(9, 1), fx);
        Due.is("a variable that does not occur", k.thmPartIs(missing, 0, xy), true);
        Due.is("the old theorem stays", k.thmPartIs(assumed, 0, xy), true);
        int both = k.rule(INST, assumed, y, x);
        Due.is("x = x", k.thmPartIs(both, 0, Due.equation(k, x, x)), true);
    }

    private static void instUnderAbs() {
        Traced k = new Traced(32, 16);
        int p = k.mkVar(0, 0);
        int q = k.mkVar(1, 0);
        int function = k.mkAbs(p, Due.equation(k, p, q));
        int same = k.rule(HolKernel.R_REFL, function, 0, 0);
        int made = k.rule(INST, same, q, p);
        Due.part("p is not caught by \\p", k, made, 0, Due.COMB, Due.COMB, Due.eq(3),
                Due.abs(0), Due.COMB, Due.COMB, Due.eq(0), Due.bound(0, 0), Due.var(0, 0),
                Due.abs(0), Due.COMB, Due.COMB, Due.eq(0), Due.bound(0, 0), Due.var(0, 0));
        int id = k.mkAbs(p, p);
        int redex = k.mkComb(id, p);
        int closed = k.rule(INST, same, q, redex);
        Due.part("BOUND nodes of the new term stay", k, closed, 0, Due.COMB, Due.COMB, Due.eq(3),
                Due.abs(0), Due.COMB, Due.COMB, Due.eq(0), Due.bound(0, 0), Due.COMB, Due.abs(0),
                Due.bound(0, 0), Due.var(0, 0),
                Due.abs(0), Due.COMB, Due.COMB, Due.eq(0), Due.bound(0, 0), Due.COMB, Due.abs(0),
                Due.bound(0, 0), Due.var(0, 0));
        int bound = k.rule(INST, same, p, q);
        Due.is("a bound p is no p", k.thmNode(bound, 0, 7), Due.bound(0, 0));
    }

    private static void instUnites() {
        Traced k = fourAssumed();
        int two = k.rule(DEDUCT, 0, 1, 0);
        int three = k.rule(DEDUCT, two, 2, 0);
        int made = k.rule(INST, three, 2, 0);
        Due.is("p2 becomes p0, which is there", k.hypCount(made), 2);
        Due.is("first", k.thmPartIs(made, 1, 0), true);
        Due.is("second", k.thmPartIs(made, 2, 1), true);
        int last = k.rule(INST, made, 0, 1);
        Due.is("all become p1", k.hypCount(last), 1);
        Due.is("it", k.thmPartIs(last, 1, 1), true);
    }

    private static void instSortsAgain() {
        Traced k = fourAssumed();
        int two = k.rule(DEDUCT, 0, 1, 0);
        int three = k.rule(DEDUCT, two, 2, 0);
        int made = k.rule(INST, three, 0, 3);
        Due.is("hypotheses", k.hypCount(made), 3);
        Due.is("first is p1", k.thmPartIs(made, 1, 1), true);
        Due.is("second is p2", k.thmPartIs(made, 2, 2), true);
        Due.is("third is p3", k.thmPartIs(made, 3, 3), true);
        Due.part("conclusion", k, made, 0, Due.COMB, Due.COMB, Due.eq(0), Due.COMB, Due.COMB,
                Due.eq(0), Due.var(3, 0), Due.var(1, 0), Due.var(2, 0));
    }

    private static void instWrongShapes() {
        Traced k = new Traced(32, 16);
        int p = k.mkVar(0, 0);
        int x = k.mkVar(0, 1);
        int eq = k.mkEq(0);
        int comb = k.mkComb(eq, p);
        int abs = k.mkAbs(p, p);
        int same = k.rule(HolKernel.R_REFL, p, 0, 0);
        Due.refused("R_INST, u of another type", k, () -> k.rule(INST, same, p, x));
        Due.refused("R_INST, u of another type, v not there", k, () -> k.rule(INST, same, x, p));
        Due.refused("R_INST, v is EQ", k, () -> k.rule(INST, same, eq, eq));
        Due.refused("R_INST, v is COMB", k, () -> k.rule(INST, same, comb, comb));
        Due.refused("R_INST, v is ABS", k, () -> k.rule(INST, same, abs, abs));
    }

    private static void instEdges() {
        Traced k = new Traced(32, 16);
        int f = k.mkVar(0, 3);
        int p = k.mkVar(0, 0);
        int q = k.mkVar(1, 0);
        int t11 = Due.chain(k, f, p, 5);
        int t13 = k.mkComb(f, t11);
        int t15 = k.mkComb(f, t13);
        int id = k.mkAbs(p, p);
        int t14 = k.mkComb(id, t11);
        int t16 = k.mkComb(id, t13);
        int qq = k.rule(ASSUME, Due.equation(k, q, t13), 0, 0);
        Due.is("size of t14", k.termSize(t14), 14);
        Due.is("R_INST of size 32", k.thmSize(k.rule(INST, qq, q, t16), 0), 32);
        int t17 = k.mkComb(f, t15);
        Due.refused("R_INST of size 33", k, () -> k.rule(INST, qq, q, t17));

        // A hypothesis grows over MAX_SIZE, the conclusion does not.
        int twice = Due.equation(k, q, q);
        int hyp = k.rule(ASSUME, twice, 0, 0);
        int reflexive = k.rule(HolKernel.R_REFL, q, 0, 0);
        int pThm = k.rule(ASSUME, p, 0, 0);
        int onP = k.rule(DEDUCT, pThm, hyp, 0);
        Due.is("p, q = q |- p = (q = q)", k.hypCount(onP), 2);
        int back = k.rule(EQ_MP, k.rule(DEDUCT, hyp, pThm, 0), reflexive, 0);
        Due.is("p, q = q |- p", k.thmPartIs(back, 0, p), true);
        Due.is("two hypotheses", k.hypCount(back), 2);
        Due.refused("R_INST, a hypothesis of size 33", k, () -> k.rule(INST, back, q, t15));
        Due.is("R_INST, a hypothesis of size 31", k.thmSize(k.rule(INST, back, q, t14), 2), 31);
    }
}
