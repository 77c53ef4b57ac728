/**
 * The edges that promise 12 names for each rule by itself, and those of the section 'Theorems',
 * sentence by sentence: what is just of the shape a rule asks for, and what is just not.
 */
public final class RuleShapeEdgesTest {
    private static final int REFL = HolKernel.R_REFL;
    private static final int TRANS = HolKernel.R_TRANS;
    private static final int MK_COMB = HolKernel.R_MK_COMB;
    private static final int ABS = HolKernel.R_ABS;
    private static final int BETA = HolKernel.R_BETA;
    private static final int ASSUME = HolKernel.R_ASSUME;
    private static final int EQ_MP = HolKernel.R_EQ_MP;
    private static final int DEDUCT = HolKernel.R_DEDUCT_ANTISYM;
    private static final int INST = HolKernel.R_INST;

    // The terms of fourVariables().
    private static final int P = 0;
    private static final int Q = 1;
    private static final int F = 2;
    private static final int G = 3;

    public static void main(String[] args) {
        whatIsAnEquation();
        transMiddleMustBeEqual();
        transOfOtherTypes();
        mkCombTypes();
        absVariableInAHypothesis();
        absVariableOnlyAlike();
        absOfNoVariable();
        absUnderEveryDepth();
        betaShape();
        assumeOfEveryType();
        eqMpMustBeEqual();
        deductWithout();
        deductRemovesOnlyEqualTerms();
        instOfOtherTypes();
        instReplacesEveryNode();
        instDoesNotReplaceInTheCopy();
        instUnitesAgain();
        instOfAVariableThatIsNotThere();
        unionKeepsEachOnce();
        partsOfATheorem();
        Due.end();
    }

    /** Terms p, q of type BOOL and f, g of type fun(BOOL,BOOL). */
    private static Traced fourVariables() {
        Traced k = new Traced(32, 16);
        k.mkVar(0, 0);
        k.mkVar(1, 0);
        k.mkVar(0, 3);
        k.mkVar(1, 3);
        return k;
    }

    private static int assumed(Traced k, int t) {
        return k.rule(ASSUME, t, 0, 0);
    }

    private static int assumedEquation(Traced k, int s, int t) {
        return k.rule(ASSUME, Due.equation(k, s, t), 0, 0);
    }

    /** "if the conclusion ... does not have the shape required": s = t is COMB(COMB(EQ(a),s),t). */
    private static void whatIsAnEquation() {
        Traced k = fourVariables();
        int h = k.mkVar(2, 4);
        int eq = k.mkEq(0);
        int[] others = {
            P, // VAR
            k.mkComb(F, P), // COMB VAR
            k.mkComb(k.mkComb(h, P), P), // COMB COMB VAR
            k.mkComb(k.mkAbs(P, P), P), // COMB ABS
            k.mkComb(k.mkComb(k.mkAbs(P, F), P), P), // COMB COMB ABS
            k.mkComb(k.mkVar(3, k.mkFun(4, 0)), eq), // COMB VAR EQ
            k.mkComb(k.mkComb(k.mkComb(k.mkVar(4, k.mkFun(4, 4)), eq), P), P)}; // COMB COMB COMB
        int same = k.rule(REFL, P, 0, 0);
        int functions = k.rule(REFL, F, 0, 0);
        int x = k.mkVar(9, 1);
        for (int t : others) {
            int th = assumed(k, t);
            String what = " of term " + t;
            Due.refused("R_TRANS a" + what, k, () -> k.rule(TRANS, th, same, 0));
            Due.refused("R_TRANS b" + what, k, () -> k.rule(TRANS, same, th, 0));
            Due.refused("R_MK_COMB a" + what, k, () -> k.rule(MK_COMB, th, same, 0));
            Due.refused("R_MK_COMB b" + what, k, () -> k.rule(MK_COMB, functions, th, 0));
            Due.refused("R_ABS a" + what, k, () -> k.rule(ABS, th, x, 0));
            Due.refused("R_EQ_MP a" + what, k, () -> k.rule(EQ_MP, th, 2, 0));
        }
        int equation = assumedEquation(k, P, Q);
        Due.is("R_ABS of an equation", k.rule(ABS, equation, x, 0), 10);
    }

    /** R_TRANS: "with t equal to t2". */
    private static void transMiddleMustBeEqual() {
        Traced k = fourVariables();
        int fp = k.mkComb(F, P);
        int fq = k.mkComb(F, Q);
        int gp = k.mkComb(G, P);
        int ffp = k.mkComb(F, fp);
        int toFp = assumedEquation(k, P, fp);
        for (int t : new int[] {P, fq, gp, ffp, Q}) {
            int from = assumedEquation(k, t, Q);
            Due.refused("R_TRANS, f p is not term " + t, k, () -> k.rule(TRANS, toFp, from, 0));
        }
        int again = k.mkComb(F, P);
        int from = assumedEquation(k, again, Q);
        int made = k.rule(TRANS, toFp, from, 0);
        Due.part("p = q over another handle of f p", k, made, 0, Due.COMB, Due.COMB, Due.eq(0),
                Due.var(0, 0), Due.var(1, 0));
    }

    /** The middle terms are equal only at the same type: \x. p at A is not \x. p at B. */
    private static void transOfOtherTypes() {
        Traced k = fourVariables();
        int overA = k.mkAbs(k.mkVar(5, 1), P);
        int overB = k.mkAbs(k.mkVar(5, 2), P);
        int first = k.rule(REFL, overA, 0, 0);
        int second = k.rule(REFL, overB, 0, 0);
        Due.refused("R_TRANS over two types", k, () -> k.rule(TRANS, first, second, 0));
        Due.is("R_TRANS over one type", k.rule(TRANS, first, first, 0), 2);
    }

    /** R_MK_COMB: "where the type of f is fun(d,c) and d is the type of x". */
    private static void mkCombTypes() {
        Traced k = new Traced(32, 16);
        int ab = k.mkFun(1, 2);
        int[] types = {0, 1, 2, 3, 4, ab};
        for (int ty : types) {
            k.rule(REFL, k.mkVar(0, ty), 0, 0);
        }
        String[] names = {"BOOL", "A", "B", "fun(BOOL,BOOL)", "fun(BOOL,fun(BOOL,BOOL))",
            "fun(A,B)"};
        for (int f = 0; f < 6; f++) {
            for (int x = 0; x < 6; x++) {
                int a = f;
                int b = x;
                String what = "R_MK_COMB of " + names[f] + " and " + names[x];
                boolean fits = x == 0 && (f == 3 || f == 4) || x == 1 && f == 5;
                if (!fits) {
                    Due.refused(what, k, () -> k.rule(MK_COMB, a, b, 0));
                }
            }
        }
        int made = k.rule(MK_COMB, 4, 0, 0);
        Due.is("EQ of fun(BOOL,BOOL) in it", k.thmNode(made, 0, 2), Due.eq(3));
        Due.is("EQ of BOOL in it", k.thmNode(k.rule(MK_COMB, 3, 0, 0), 0, 2), Due.eq(0));
        Due.is("EQ of B in it", k.thmNode(k.rule(MK_COMB, 5, 1, 0), 0, 2), Due.eq(2));
    }

    /** R_ABS: "which occurs in no hypothesis of A": wherever it stands in whichever of three. */
    private static void absVariableInAHypothesis() {
        for (int place = 0; place < 3; place++) {
            Traced k = fourVariables();
            int r = k.mkVar(2, 0);
            int v = k.mkVar(5, 0);
            // Hypotheses q, r and one with v as its last or fourth node; the conclusion is p = p.
            int fv = k.mkComb(F, v);
            int gv = k.mkComb(G, v);
            int eqv = Due.equation(k, v, P);
            int withV = place == 0 ? fv : place == 1 ? gv : eqv;
            int same = k.rule(REFL, P, 0, 0);
            int carrier = k.rule(DEDUCT, assumed(k, Q), assumed(k, withV), 0);
            int three = k.rule(DEDUCT, carrier, assumed(k, r), 0);
            int equation = k.rule(DEDUCT, three, same, 0);
            int th = k.rule(EQ_MP, equation, three, 0);
            Due.is("three hypotheses", k.hypCount(th), 3);
            for (int t : new int[] {v, Q, r}) {
                Due.refused("R_ABS of term " + t + " in a hypothesis", k,
                        () -> k.rule(ABS, th, t, 0));
            }
            int made = k.rule(ABS, th, k.mkVar(6, 0), 0);
            Due.is("R_ABS of what is in none", k.hypCount(made), 3);
            // p stands in the conclusion, and of the hypotheses in eqv alone.
            if (place == 2) {
                Due.refused("R_ABS of p, which is in v = p", k, () -> k.rule(ABS, th, P, 0));
            } else {
                Due.part("R_ABS of p", k, k.rule(ABS, th, P, 0), 0, Due.COMB, Due.COMB, Due.eq(3),
                        Due.abs(0), Due.bound(0, 0), Due.abs(0), Due.bound(0, 0));
            }
        }
    }

    /** What is bound in a hypothesis, or alike but for number or type, doesn't stop R_ABS. */
    private static void absVariableOnlyAlike() {
        Traced k = new Traced(32, 16);
        int p = k.mkVar(0, 0);
        int ofFunction = k.mkVar(0, k.mkFun(3, 0));
        int bound = k.mkComb(ofFunction, k.mkAbs(p, p));
        int hyp = assumed(k, bound);
        int same = k.rule(REFL, p, 0, 0);
        int th = k.rule(EQ_MP, k.rule(DEDUCT, hyp, same, 0), hyp, 0);
        Due.is("h (\\p. p) |- p = p", k.thmPartIs(th, 1, bound), true);
        int made = k.rule(ABS, th, p, 0);
        Due.part("p is bound there", k, made, 0, Due.COMB, Due.COMB, Due.eq(3), Due.abs(0),
                Due.bound(0, 0), Due.abs(0), Due.bound(0, 0));
        Due.is("VAR(0,A) is not there", k.rule(ABS, th, k.mkVar(0, 1), 0) >= 0, true);
        Due.is("VAR(1,5) is not there", k.rule(ABS, th, k.mkVar(1, 5), 0) >= 0, true);
        Due.refused("VAR(0,5) is there", k, () -> k.rule(ABS, th, ofFunction, 0));
        // Under an ABS of the hypothesis it is there as well.
        int q = k.mkVar(1, 0);
        int under = assumed(k, k.mkComb(ofFunction, k.mkAbs(q, p)));
        int other = k.rule(EQ_MP, k.rule(DEDUCT, under, same, 0), under, 0);
        Due.refused("p under an ABS", k, () -> k.rule(ABS, other, p, 0));
    }

    /** R_ABS: "b = a term that is a single node VAR(i,d)". */
    private static void absOfNoVariable() {
        Traced k = fourVariables();
        int eq = k.mkEq(0);
        int comb = k.mkComb(F, P);
        int abs = k.mkAbs(P, P);
        int same = k.rule(REFL, Q, 0, 0);
        for (int b : new int[] {eq, comb, abs}) {
            Due.refused("R_ABS of term " + b, k, () -> k.rule(ABS, same, b, 0));
            Due.refused("R_INST of term " + b, k, () -> k.rule(INST, same, b, b));
        }
        Due.is("R_ABS of a function variable", k.rule(ABS, same, F, 0), 1);
    }

    /** R_ABS: "S and T are the abstractions of VAR(i,d) in s and in t", under 0 to 5 ABS nodes. */
    private static void absUnderEveryDepth() {
        for (int left = 0; left <= 5; left++) {
            Traced k = fourVariables();
            int s = Q;
            for (int i = 0; i < left; i++) {
                s = k.mkComb(k.mkAbs(P, s), P);
            }
            // |- (\p. (... q) p) p = q, with as many ABS nodes above the first q.
            int equation = k.rule(HolKernel.R_BETA_NORM, s, 0, 0);
            int made = k.rule(ABS, equation, Q, 0);
            int size = k.thmSize(made, 0);
            Due.is("node of q on the left, depth " + left, k.thmNode(made, 0, 4 + 2 * left),
                    Due.bound(left, 0));
            Due.is("first node on the right", k.thmNode(made, 0, size - 2), Due.abs(0));
            Due.is("node of q on the right", k.thmNode(made, 0, size - 1), Due.bound(0, 0));
            Audit.check("R_ABS at depth " + left, k.kernel());
        }
    }

    /** R_BETA: "a = term t of the form COMB(ABS(d,s),u)". */
    private static void betaShape() {
        Traced k = fourVariables();
        int id = k.mkAbs(P, P);
        int redex = k.mkComb(id, Q);
        int[] others = {P, F, id, k.mkEq(0), k.mkComb(F, P), k.mkComb(F, redex),
            k.mkAbs(Q, redex), k.mkComb(k.mkComb(k.mkAbs(P, F), P), Q)};
        for (int t : others) {
            Due.refused("R_BETA of term " + t, k, () -> k.rule(BETA, t, 0, 0));
        }
        Due.is("R_BETA of a redex", k.rule(BETA, redex, 0, 0), 0);
        int twice = k.mkComb(id, redex);
        Due.is("R_BETA of a redex with one inside", k.rule(BETA, twice, 0, 0), 1);
        Due.part("one contraction alone", k, 1, 0, Due.COMB, Due.COMB, Due.eq(0), Due.COMB,
                Due.abs(0), Due.bound(0, 0), Due.COMB, Due.abs(0), Due.bound(0, 0), Due.var(1, 0),
                Due.COMB, Due.abs(0), Due.bound(0, 0), Due.var(1, 0));
    }

    /** R_ASSUME: "a = term p of type BOOL". */
    private static void assumeOfEveryType() {
        Traced k = new Traced(32, 16);
        int toBool = k.mkFun(1, 0);
        for (int ty : new int[] {1, 2, 3, 4, toBool}) {
            int x = k.mkVar(0, ty);
            Due.refused("R_ASSUME of type " + ty, k, () -> k.rule(ASSUME, x, 0, 0));
        }
        int eq = k.mkEq(0);
        Due.refused("R_ASSUME of EQ(BOOL)", k, () -> k.rule(ASSUME, eq, 0, 0));
        int p = k.mkVar(0, 0);
        int id = k.mkAbs(p, p);
        Due.refused("R_ASSUME of \\p. p", k, () -> k.rule(ASSUME, id, 0, 0));
        Due.is("R_ASSUME of type BOOL", k.rule(ASSUME, p, 0, 0), 0);
        Due.is("one hypothesis, p", k.hypCount(0), 1);
        Due.is("which is p", k.thmPartIs(0, 1, p), true);
        Due.is("the conclusion is p", k.thmPartIs(0, 0, p), true);
    }

    /** R_EQ_MP: "with p equal to p2". */
    private static void eqMpMustBeEqual() {
        Traced k = fourVariables();
        int fp = k.mkComb(F, P);
        int fq = k.mkComb(F, Q);
        int gp = k.mkComb(G, P);
        int ffp = k.mkComb(F, fp);
        int equation = assumedEquation(k, fp, Q);
        for (int t : new int[] {P, Q, fq, gp, ffp}) {
            int premise = assumed(k, t);
            Due.refused("R_EQ_MP, f p is not term " + t, k,
                    () -> k.rule(EQ_MP, equation, premise, 0));
        }
        int premise = assumed(k, k.mkComb(F, P));
        int made = k.rule(EQ_MP, equation, premise, 0);
        Due.part("q", k, made, 0, Due.var(1, 0));
        int functions = k.rule(REFL, F, 0, 0);
        Due.refused("R_EQ_MP of f = f", k, () -> k.rule(EQ_MP, functions, premise, 0));
    }

    /** R_DEDUCT_ANTISYM: "(A without q) union (B without p) |- p = q". */
    private static void deductWithout() {
        Traced k = fourVariables();
        int pq = Due.equation(k, P, Q);
        int hypP = assumed(k, P);
        int hypQ = assumed(k, Q);
        int hypPq = assumed(k, pq);
        int mp = k.rule(EQ_MP, hypPq, hypP, 0);
        hypotheses("p = q, p |- q", k, mp, P, pq);
        hypotheses("neither goes: p |- p, q |- q", k, k.rule(DEDUCT, hypP, hypQ, 0), P, Q);
        hypotheses("p stays in A and goes from B", k, k.rule(DEDUCT, hypP, mp, 0), P, pq);
        hypotheses("p goes from both", k, k.rule(DEDUCT, hypP, hypP, 0));
        hypotheses("p goes from A and stays in B", k, k.rule(DEDUCT, mp, hypP, 0), P, pq);
        // Each list loses the other theorem's conclusion, not its own.
        int backward = k.rule(DEDUCT, hypQ, hypP, 0);
        hypotheses("q, p |- q = p", k, backward, P, Q);
        int onlyP = k.rule(EQ_MP, backward, hypQ, 0);
        hypotheses("p, q |- p", k, onlyP, P, Q);
        hypotheses("q goes from A and stays in B", k, k.rule(DEDUCT, onlyP, hypQ, 0), P,
                Q);
        hypotheses("A without q, B without p", k, k.rule(DEDUCT, onlyP, mp, 0), P, pq);
        hypotheses("A without p, B without q", k, k.rule(DEDUCT, mp, onlyP, 0), P, pq);
    }

    private static void hypotheses(String what, Traced k, int th, int... terms) {
        Due.is(what + ": hypotheses", k.hypCount(th), terms.length);
        for (int i = 0; i < terms.length; i++) {
            Due.is(what + ": hypothesis " + i, k.thmPartIs(th, i + 1, terms[i]), true);
        }
    }

    /** A hypothesis that is q but for its last node, or for its type, stays. */
    private static void deductRemovesOnlyEqualTerms() {
        Traced k = fourVariables();
        int fp = k.mkComb(F, P);
        int fq = k.mkComb(F, Q);
        int hypP = assumed(k, fp);
        int hypQ = assumed(k, fq);
        hypotheses("f p and f q", k, k.rule(DEDUCT, hypP, hypQ, 0), fp, fq);
        int again = assumed(k, k.mkComb(F, P));
        hypotheses("f p by another handle", k, k.rule(DEDUCT, hypP, again, 0));
        // All three hypotheses of one may go or stay.
        int two = k.rule(DEDUCT, hypP, hypQ, 0);
        int three = k.rule(DEDUCT, two, assumed(k, P), 0);
        hypotheses("three", k, three, P, fp, fq);
        hypotheses("without the first", k, k.rule(DEDUCT, three, assumed(k, P), 0), P, fp, fq);
        int back = k.rule(EQ_MP, three, two, 0);
        hypotheses("p, f p, f q |- p", k, back, P, fp, fq);
        hypotheses("the last goes from A and comes from B", k,
                k.rule(DEDUCT, back, hypQ, 0), P, fp, fq);
        hypotheses("the first goes from both", k, k.rule(DEDUCT, back, back, 0), fp, fq);
    }

    /** R_INST: "c = a term u of type d". */
    private static void instOfOtherTypes() {
        Traced k = new Traced(32, 16);
        int[] types = {0, 1, 2, 3, 4};
        for (int ty : types) {
            k.mkVar(0, ty);
        }
        int th = k.rule(ASSUME, 0, 0, 0);
        for (int v : types) {
            for (int u : types) {
                if (u != v) {
                    Due.refused("R_INST of type " + v + " by type " + u, k,
                            () -> k.rule(INST, th, v, u));
                } else {
                    Due.is("R_INST of type " + v, k.rule(INST, th, v, u), v + 1);
                }
            }
        }
    }

    /** "every node VAR(i,d) of the conclusion and of each hypothesis is replaced". */
    private static void instReplacesEveryNode() {
        Traced k = new Traced(32, 16);
        int v = k.mkVar(0, 0);
        int sameId = k.mkVar(0, 3);
        int sameType = k.mkVar(1, 0);
        int u = k.mkVar(2, 0);
        int vv = Due.equation(k, v, v);
        int under = k.mkComb(k.mkAbs(sameType, vv), v);
        int other = k.mkComb(sameId, sameType);
        int two = k.rule(DEDUCT, k.rule(ASSUME, under, 0, 0), k.rule(ASSUME, v, 0, 0), 0);
        int three = k.rule(DEDUCT, two, k.rule(ASSUME, other, 0, 0), 0);
        Due.is("three hypotheses", k.hypCount(three), 3);
        int made = k.rule(INST, three, v, u);
        int uu = Due.equation(k, u, u);
        int underU = k.mkComb(k.mkAbs(sameType, uu), u);
        hypotheses("R_INST in each", k, made, u, other, underU);
        int conclusion = Due.equation(k, Due.equation(k, underU, u), other);
        Due.is("R_INST in the conclusion", k.thmPartIs(made, 0, conclusion), true);
        Audit.check("after R_INST", k.kernel());
    }

    /** v in u is not replaced again, and u is not touched under an ABS. */
    private static void instDoesNotReplaceInTheCopy() {
        Traced k = fourVariables();
        int fp = k.mkComb(F, P);
        int th = k.rule(ASSUME, fp, 0, 0);
        int made = k.rule(INST, th, P, fp);
        Due.part("f (f p)", k, made, 0, Due.COMB, Due.var(0, 3), Due.COMB, Due.var(0, 3),
                Due.var(0, 0));
        Due.part("f (f p) as hypothesis", k, made, 1, Due.COMB, Due.var(0, 3), Due.COMB,
                Due.var(0, 3), Due.var(0, 0));
        int id = k.mkAbs(P, P);
        int constant = k.mkComb(k.mkAbs(Q, k.mkComb(F, Q)), Q);
        int deep = k.rule(INST, k.rule(ASSUME, constant, 0, 0), F, id);
        Due.part("(\\q. (\\p. p) q) q", k, deep, 0, Due.COMB, Due.abs(0), Due.COMB, Due.abs(0),
                Due.bound(0, 0), Due.bound(0, 0), Due.var(1, 0));
    }

    /** "The hypotheses are then united again (kept once each, sorted ascending)." */
    private static void instUnitesAgain() {
        for (int[] order : new int[][] {{0, 1, 2}, {2, 1, 0}, {1, 0, 2}}) {
            Traced k = new Traced(32, 16);
            for (int i = 0; i < 5; i++) {
                k.mkVar(i, 0);
            }
            int first = k.rule(DEDUCT, assumed(k, order[0]), assumed(k, order[1]), 0);
            int three = k.rule(DEDUCT, first, assumed(k, order[2]), 0);
            hypotheses("three", k, three, 0, 1, 2);
            hypotheses("p0 becomes p3", k, k.rule(INST, three, 0, 3), 1, 2, 3);
            hypotheses("p1 becomes p3", k, k.rule(INST, three, 1, 3), 0, 2, 3);
            hypotheses("p2 becomes p0", k, k.rule(INST, three, 2, 0), 0, 1);
            hypotheses("p0 becomes p2", k, k.rule(INST, three, 0, 2), 1, 2);
            int two = k.rule(INST, three, 1, 2);
            hypotheses("p1 becomes p2", k, two, 0, 2);
            hypotheses("then p2 becomes p0", k, k.rule(INST, two, 2, 0), 0);
        }
    }

    /** v need not occur; the result is the theorem again, with a handle of its own. */
    private static void instOfAVariableThatIsNotThere() {
        Traced k = fourVariables();
        int t32 = new Sized(k).of(32);
        int th = k.rule(ASSUME, t32, 0, 0);
        int missing = k.mkVar(9, 0);
        int made = k.rule(INST, th, missing, t32);
        Due.is("another handle", made, th + 1);
        Due.is("the same conclusion", k.thmPartIs(made, 0, t32), true);
        hypotheses("the same hypothesis", k, made, t32);
    }

    /** "The union of hypothesis lists keeps each term once and sorts them ascending." */
    private static void unionKeepsEachOnce() {
        Traced k = new Traced(32, 16);
        int p = k.mkVar(0, 0);
        int q = k.mkVar(1, 0);
        int fp = k.mkComb(k.mkVar(0, 3), p);
        int again = k.mkComb(k.mkVar(0, 3), p);
        int a = k.rule(DEDUCT, assumed(k, fp), assumed(k, q), 0);
        int b = k.rule(DEDUCT, assumed(k, p), assumed(k, again), 0);
        hypotheses("q, f p", k, a, q, fp);
        hypotheses("p, f p", k, b, p, fp);
        int both = k.rule(DEDUCT, a, b, 0);
        hypotheses("f p stands once", k, both, p, q, fp);
        hypotheses("the same the other way", k, k.rule(DEDUCT, b, a, 0), p, q, fp);
    }

    /** "Part 0 ... is its conclusion; part k (1 <= k <= hypCount) is its k-th hypothesis". */
    private static void partsOfATheorem() {
        Traced k = fourVariables();
        int pq = Due.equation(k, P, Q);
        int both = k.rule(DEDUCT, assumed(k, P), assumed(k, Q), 0);
        Due.is("part 0", k.thmPartIs(both, 0, pq), true);
        Due.is("part 1", k.thmPartIs(both, 1, P), true);
        Due.is("part 2", k.thmPartIs(both, 2, Q), true);
        for (int part : new int[] {-1, 3, 4, Integer.MIN_VALUE, Integer.MAX_VALUE}) {
            Due.is("size of part " + part, k.thmSize(both, part), -1);
        }
    }
}
