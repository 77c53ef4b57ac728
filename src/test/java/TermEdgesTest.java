/** The edges that the sections 'Terms' and 'Abstraction' name, sentence by sentence. */
public final class TermEdgesTest {
    public static void main(String[] args) {
        variablesAgreeInNumberAndType();
        boundRefersToTheNearest();
        boundRefersToTheFarthest();
        everyTermIsAsSaid();
        equalUpToRenaming();
        codesOfLargestParts();
        orderAtTheFirstDifference();
        orderOfKinds();
        orderOfNumbersAndTypes();
        sizeOfAnEquation();
        abstractionUnderEveryDepth();
        abstractionLeavesOtherVariables();
        abstractionLeavesBoundOnes();
        Due.end();
    }

    /** "Two variables are the same exactly when both i and t agree." */
    private static void variablesAgreeInNumberAndType() {
        Traced k = new Traced(16, 8);
        int x = k.mkVar(3, 1);
        int same = k.mkVar(3, 1);
        int otherId = k.mkVar(4, 1);
        int otherType = k.mkVar(3, 2);
        int refl = k.mkComb(k.mkComb(k.mkEq(1), x), x);
        int assumed = k.rule(HolKernel.R_ASSUME, refl, 0, 0);
        Due.refused("R_ABS of the same variable", k,
                () -> k.rule(HolKernel.R_ABS, assumed, same, 0));
        Due.is("R_ABS, other number", k.rule(HolKernel.R_ABS, assumed, otherId, 0), 1);
        Due.is("R_ABS, other type", k.rule(HolKernel.R_ABS, assumed, otherType, 0), 2);
        Due.term("\\x. x by another handle", k, k.mkAbs(same, x), Due.abs(1), Due.bound(0, 1));
        Due.term("\\x4. x3", k, k.mkAbs(otherId, x), Due.abs(1), Due.var(3, 1));
        Due.term("\\x3:B. x3:A", k, k.mkAbs(otherType, x), Due.abs(2), Due.var(3, 1));
    }

    /** "It refers to the (j+1)-th ABS node above it (j = 0 is the nearest)". */
    private static void boundRefersToTheNearest() {
        Traced k = new Traced(16, 8);
        int x = k.mkVar(0, 0);
        int id = k.mkAbs(x, x);
        Due.term("\\x. x", k, id, Due.abs(0), Due.bound(0, 0));
        // x is no more there to be bound: the nearest ABS keeps it.
        Due.term("\\x x. x", k, k.mkAbs(x, id), Due.abs(0), Due.abs(0), Due.bound(0, 0));
        int y = k.mkVar(1, 0);
        Due.term("\\x y. x", k, k.mkAbs(x, k.mkAbs(y, x)), Due.abs(0), Due.abs(0),
                Due.bound(1, 0));
    }

    /** The largest index that the arena has room for: two variables and 30 ABS nodes fill it. */
    private static void boundRefersToTheFarthest() {
        Traced k = new Traced(32, 8);
        int x = k.mkVar(0, 2);
        int y = k.mkVar(1, 0);
        int t = x;
        for (int i = 0; i < 29; i++) {
            t = k.mkAbs(y, t);
        }
        Due.is("size under 29 ABS nodes", k.termSize(t), 30);
        int farthest = k.mkAbs(x, t);
        Due.is("arena is full", k.mkVar(0, 0), -1);
        Due.is("size", k.termSize(farthest), 31);
        Due.is("first node", k.termNode(farthest, 0), Due.abs(2));
        Due.is("last node", k.termNode(farthest, 30), Due.bound(29, 2));
        Audit.check("30 ABS nodes", k.kernel());
    }

    /** "Every term the object holds ... is closed ..., is well typed, has size ... at most ...". */
    private static void everyTermIsAsSaid() {
        Traced k = new Traced(32, 16);
        Sized sized = new Sized(k);
        int x = k.mkVar(0, 1);
        int constant = k.mkAbs(x, sized.of(29));
        int large = k.mkComb(constant, x);
        Due.is("size of (\\x. t29) x", k.termSize(large), 32);
        k.rule(HolKernel.R_BETA_NORM, sized.of(16), 0, 0);
        int assumed = k.rule(HolKernel.R_ASSUME, large, 0, 0);
        k.rule(HolKernel.R_INST, assumed, x, x);
        int same = k.rule(HolKernel.R_REFL, sized.f, 0, 0);
        int abs = k.rule(HolKernel.R_ABS, same, x, 0);
        int arg = k.rule(HolKernel.R_REFL, x, 0, 0);
        k.rule(HolKernel.R_MK_COMB, abs, arg, 0);
        k.rule(HolKernel.R_TRANS, same, same, 0);
        k.rule(HolKernel.R_DEDUCT_ANTISYM, same, arg, 0);
        Due.is("theorems", Due.thmCount(k.kernel()), 9);
        Audit.check("terms and theorems of all sizes", k.kernel());
    }

    /** "Two terms are equal exactly when ...; this is equality up to renaming ...". */
    private static void equalUpToRenaming() {
        Traced k = new Traced(32, 8);
        int x = k.mkVar(0, 0);
        int y = k.mkVar(1, 0);
        int byX = k.mkAbs(x, x);
        int byY = k.mkAbs(y, y);
        int toX = k.mkAbs(x, y);
        int f = k.mkVar(2, 3);
        int first = k.rule(HolKernel.R_ASSUME, Due.equation(k, f, byX), 0, 0);
        int second = k.rule(HolKernel.R_ASSUME, Due.equation(k, byY, f), 0, 0);
        int third = k.rule(HolKernel.R_ASSUME, Due.equation(k, toX, f), 0, 0);
        Due.is("R_TRANS over \\x. x and \\y. y", k.rule(HolKernel.R_TRANS, first, second, 0), 3);
        Due.refused("R_TRANS over \\x. x and \\x. y", k,
                () -> k.rule(HolKernel.R_TRANS, first, third, 0));
        int same = Due.equation(k, byX, byY);
        int refl = k.rule(HolKernel.R_REFL, byX, 0, 0);
        Due.is("|- (\\x. x) = (\\x. x) is (\\x. x) = (\\y. y)", k.thmPartIs(refl, 0, same), true);
    }

    /** "The CODE of a node is kind*65536 + p*256 + q": at the ends of what p and q can be. */
    private static void codesOfLargestParts() {
        Traced k = new Traced(16, 8);
        Due.fillTypes(k, 46);
        int eq = k.mkEq(1);
        Due.is("no room for another type", k.typeCount(), 48);
        Due.term("EQ(A)", k, eq, 131073);
        Due.term("VAR(15,47)", k, k.mkVar(15, 47), 69423);
        Due.term("VAR(0,0)", k, k.mkVar(0, 0), 65536);
        Due.term("VAR(15,0)", k, k.mkVar(15, 0), 69376);
        Due.term("VAR(0,47)", k, k.mkVar(0, 47), 65583);

        Traced top = new Traced(16, 8);
        Due.fillTypes(top, 46);
        Due.term("EQ(45)", top, top.mkEq(45), 131117);
        Due.is("type of EQ(45)", top.termType(0), 47);

        Traced last = new Traced(16, 8);
        Due.fillTypes(last, 47);
        int v = last.mkVar(15, 46);
        int id = last.mkAbs(v, v);
        Due.term("\\v:46. v", last, id, 262190, 327726);
        Due.is("type of it", last.termType(id), 47);
        Due.term("(\\v:46. v) v", last, last.mkComb(id, v), 196608, 262190, 327726, 69422);
    }

    /** "At the first position where they differ, the term with the smaller code comes first." */
    private static void orderAtTheFirstDifference() {
        Traced k = new Traced(32, 16);
        int p0 = k.mkVar(0, 0);
        int p1 = k.mkVar(1, 0);
        int f0 = k.mkVar(0, 3);
        int f1 = k.mkVar(1, 3);
        // f0 p1 comes before f1 p0, though it is larger behind; size doesn't matter either.
        ascend("f0 p1, f1 p0", k, k.mkComb(f0, p1), k.mkComb(f1, p0));
        ascend("f0 (f0 p0) after f0 p1", k, k.mkComb(f0, p1), k.mkComb(f0, k.mkComb(f0, p0)));
        ascend("p15, f0 p0", k, k.mkVar(15, 0), k.mkComb(f0, p0));
        ascend("p0, p1", k, p0, p1);
        // Only the last node of the two differs.
        ascend("f0 (f0 p0), f0 (f0 p1)", k, Due.chain(k, f0, p0, 2), Due.chain(k, f0, p1, 2));
    }

    private static void ascend(String what, Traced k, int first, int second) {
        for (boolean turned : new boolean[] {false, true}) {
            HolKernel copy = k.again();
            int a = copy.rule(HolKernel.R_ASSUME, turned ? second : first, 0, 0);
            int b = copy.rule(HolKernel.R_ASSUME, turned ? first : second, 0, 0);
            int both = copy.rule(HolKernel.R_DEDUCT_ANTISYM, a, b, 0);
            Due.is(what + ", hypotheses", copy.hypCount(both), 2);
            Due.is(what + ", first", copy.thmPartIs(both, 1, first), true);
            Due.is(what + ", second", copy.thmPartIs(both, 2, second), true);
        }
    }

    /** VAR, EQ, COMB, ABS and BOUND ascend by their kinds, whatever else their codes hold. */
    private static void orderOfKinds() {
        Traced k = new Traced(32, 16);
        int ofFunction = k.mkVar(0, k.mkFun(4, 0));
        int g = k.mkVar(15, 4);
        int eq = k.mkEq(0);
        int f = k.mkVar(0, 3);
        int p = k.mkVar(0, 0);
        int q = k.mkVar(15, 0);
        int half = k.mkComb(k.mkVar(0, k.mkFun(0, 4)), p);
        int abs = k.mkAbs(p, f);
        ascend("h g15, h EQ", k, k.mkComb(ofFunction, g), k.mkComb(ofFunction, eq));
        ascend("h EQ, h (e p)", k, k.mkComb(ofFunction, eq), k.mkComb(ofFunction, half));
        ascend("h (e p), h (\\p. f)", k, k.mkComb(ofFunction, half), k.mkComb(ofFunction, abs));
        int id = k.mkAbs(p, p);
        int constant = k.mkAbs(p, q);
        ascend("(\\p. q15) p, (\\p. p) p", k, k.mkComb(constant, p), k.mkComb(id, p));
    }

    /** Within a kind the number i or j weighs more than the type. */
    private static void orderOfNumbersAndTypes() {
        Traced k = new Traced(32, 16);
        int x = k.mkVar(0, 1);
        int p = k.mkVar(0, 0);
        int ofA = k.mkFun(1, 0);
        int h0 = k.mkVar(0, ofA);
        int f0 = k.mkVar(0, 3);
        int f1 = k.mkVar(1, 3);
        int h0x = k.mkComb(h0, x);
        ascend("f0 p, h0 x: the smaller type", k, k.mkComb(f0, p), h0x);
        ascend("h0 x, f1 p: the smaller number", k, h0x, k.mkComb(f1, p));
        ascend("p = p, x = x", k, Due.equation(k, p, p), Due.equation(k, x, x));
        int overP = k.mkAbs(p, p);
        int overX = k.mkAbs(x, p);
        ascend("(\\p. p) p, (\\x. p) x", k, k.mkComb(overP, p), k.mkComb(overX, x));
        int near = k.mkComb(k.mkComb(k.mkAbs(x, overP), x), p);
        int far = k.mkComb(k.mkComb(k.mkAbs(p, k.mkAbs(x, p)), p), x);
        ascend("(\\p x. p) p x, (\\x p. p) x p", k, far, near);
        Traced other = new Traced(32, 16);
        orderOfBound(other, other.mkVar(0, 0), other.mkVar(1, 0));
    }

    /** BOUND nodes by their index: the nearer binder first. */
    private static void orderOfBound(Traced k, int p, int q) {
        int first = k.mkAbs(p, k.mkAbs(q, q));
        int second = k.mkAbs(p, k.mkAbs(q, p));
        ascend("(\\p q. q) p q, (\\p q. p) p q", k, k.mkComb(k.mkComb(first, p), q),
                k.mkComb(k.mkComb(second, p), q));
    }

    /** "Its size is 3 + size(s) + size(t)." */
    private static void sizeOfAnEquation() {
        for (int left : new int[] {1, 3, 13, 14, 16}) {
            Traced k = new Traced(32, 8);
            Sized sized = new Sized(k);
            int made = sized.assumedEquation(left, 29 - left);
            Due.is("size of " + left + " = " + (29 - left), k.thmSize(made, 0), 32);
            int beyond = k.mkComb(sized.eq, sized.of(left));
            int right = sized.of(30 - left);
            Due.refused("an equation of size 33", k, () -> k.mkComb(beyond, right));
        }
    }

    /** "every node VAR(i,a) of s that lies under k ABS nodes of s becomes BOUND(k,a)". */
    private static void abstractionUnderEveryDepth() {
        Traced k = new Traced(32, 8);
        int x = k.mkVar(0, 1);
        int y = k.mkVar(1, 2);
        int t = x;
        for (int depth = 0; depth < 14; depth++) {
            int made = k.mkAbs(x, t);
            Due.is("size at depth " + depth, k.termSize(made), depth + 2);
            Due.is("first node at depth " + depth, k.termNode(made, 0), Due.abs(1));
            Due.is("last node at depth " + depth, k.termNode(made, depth + 1),
                    Due.bound(depth, 1));
            t = k.mkAbs(y, t);
        }
        // Behind an ABS node the depth is what it was before it.
        Traced back = new Traced(32, 8);
        int p = back.mkVar(0, 0);
        int g = back.mkVar(1, back.mkFun(3, 3));
        int under = back.mkComb(g, back.mkAbs(back.mkVar(2, 0), p));
        int made = back.mkAbs(p, back.mkComb(under, p));
        Due.term("\\p. g (\\q. p) p", back, made, Due.abs(0), Due.COMB, Due.COMB, Due.var(1, 5),
                Due.abs(0), Due.bound(1, 0), Due.bound(0, 0));
    }

    /** Of all variables in s, only VAR(i,a) itself is changed. */
    private static void abstractionLeavesOtherVariables() {
        Traced k = new Traced(32, 8);
        int x = k.mkVar(7, 1);
        int h = k.mkVar(7, k.mkFun(1, k.mkFun(1, k.mkFun(2, 0))));
        int near = k.mkVar(6, 1);
        int sameId = k.mkVar(7, 2);
        int body = k.mkComb(k.mkComb(k.mkComb(h, x), near), sameId);
        Due.term("\\x7:A. h7 x7:A x6:A x7:B", k, k.mkAbs(x, body), Due.abs(1), Due.COMB, Due.COMB,
                Due.COMB, Due.var(7, k.termType(h)), Due.bound(0, 1), Due.var(6, 1),
                Due.var(7, 2));
    }

    /** What is bound in s stays as it is, also where its index is as large as the depth. */
    private static void abstractionLeavesBoundOnes() {
        Traced k = new Traced(32, 8);
        int x = k.mkVar(0, 0);
        int y = k.mkVar(1, 0);
        int both = k.mkComb(k.mkComb(k.mkEq(0), x), y);
        int inner = k.mkAbs(x, k.mkAbs(y, both));
        Due.term("\\y x y. x = y", k, k.mkAbs(y, inner), Due.abs(0), Due.abs(0), Due.abs(0),
                Due.COMB, Due.COMB, Due.eq(0), Due.bound(1, 0), Due.bound(0, 0));
    }
}
