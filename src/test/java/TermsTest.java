/** Promises 5 to 8: mkVar, mkEq, mkComb and mkAbs. */
public final class TermsTest {
    private static final int[] NEVER_HANDLES = {-1, Integer.MIN_VALUE, Integer.MAX_VALUE, 48, 32};

    public static void main(String[] args) {
        variables();
        wrongVariables();
        equalities();
        equalitiesAtTheEndOfTheTable();
        applications();
        wrongApplications();
        largestApplication();
        abstractions();
        abstractionUnderAbstraction();
        wrongAbstractions();
        largestAbstraction();
        abstractionsAtTheEndOfTheTable();
        fullArena();
        Due.end();
    }

    private static void variables() {
        Traced k = new Traced(8, 4);
        String before = Due.types(k);
        Due.is("mkVar(0,BOOL)", k.mkVar(0, 0), 0);
        Due.is("mkVar(15,4)", k.mkVar(15, 4), 1);
        Due.is("mkVar(0,BOOL) again", k.mkVar(0, 0), 2);
        Due.is("mkVar(7,B)", k.mkVar(7, 2), 3);
        Due.term("mkVar(0,BOOL)", k, 0, 65536);
        Due.term("mkVar(15,4)", k, 1, 65536 + 15 * 256 + 4);
        Due.term("mkVar(0,BOOL) again", k, 2, 65536);
        Due.is("type of mkVar(15,4)", k.termType(1), 4);
        Due.is("type of mkVar(7,B)", k.termType(3), 2);
        Due.same("types after mkVar", Due.types(k), before);
    }

    private static void wrongVariables() {
        Traced k = new Traced(8, 4);
        for (int bad : NEVER_HANDLES) {
            Due.refused("mkVar(" + bad + ",0)", k, () -> k.mkVar(bad, 0));
            Due.refused("mkVar(0," + bad + ")", k, () -> k.mkVar(0, bad));
        }
        Due.refused("mkVar(16,0)", k, () -> k.mkVar(16, 0));
        Due.refused("mkVar(0,5), one too far", k, () -> k.mkVar(0, 5));
        k.mkFun(1, 1);
        Due.is("mkVar(0,5)", k.mkVar(0, 5), 0);
    }

    private static void equalities() {
        Traced k = new Traced(8, 4);
        Due.is("mkEq(BOOL)", k.mkEq(0), 0);
        Due.is("type of EQ(BOOL)", k.termType(0), 4);
        Due.is("typeCount() after mkEq(BOOL)", k.typeCount(), 5);
        Due.is("mkEq(A)", k.mkEq(1), 1);
        Due.is("type of EQ(A)", k.termType(1), 6);
        Due.same("types after mkEq(A)", Due.types(k),
                "types 7 -1>-1 -1>-1 -1>-1 0>0 0>3 1>0 1>5");
        Due.is("mkFun(B,BOOL)", k.mkFun(2, 0), 7);
        Due.is("mkEq(B), fun(B,BOOL) is there", k.mkEq(2), 2);
        Due.is("type of EQ(B)", k.termType(2), 8);
        Due.is("typeArg(8,0)", k.typeArg(8, 0), 2);
        Due.is("typeArg(8,1)", k.typeArg(8, 1), 7);
        Due.is("mkEq(A) again", k.mkEq(1), 3);
        Due.is("typeCount() after mkEq(A) again", k.typeCount(), 9);
        Due.term("EQ(A)", k, 1, 2 * 65536 + 1);
        Due.term("EQ(A) again", k, 3, 2 * 65536 + 1);
        for (int bad : NEVER_HANDLES) {
            Due.refused("mkEq(" + bad + ")", k, () -> k.mkEq(bad));
        }
        Due.refused("mkEq(9), one too far", k, () -> k.mkEq(9));
    }

    private static void equalitiesAtTheEndOfTheTable() {
        Traced k = new Traced(8, 4);
        k.mkFun(1, 0);
        Due.fillTypes(k, 46);
        Due.is("mkEq(B), room for just its two types", k.mkEq(2), 0);
        Due.is("typeCount() after it", k.typeCount(), 48);
        Due.is("type of EQ(B)", k.termType(0), 47);
        Due.refused("mkEq(A), room for none of its types", k, () -> k.mkEq(1));
        Due.is("mkEq(B) again", k.mkEq(2), 1);

        Traced one = new Traced(8, 4);
        one.mkFun(1, 0);
        Due.fillTypes(one, 47);
        Due.refused("mkEq(B), room for one of two types", one, () -> one.mkEq(2));
        Due.is("mkEq(A), room for the one that is missing", one.mkEq(1), 0);
        Due.is("type of EQ(A)", one.termType(0), 47);
        Due.is("mkEq(BOOL) with a full table", one.mkEq(0), 1);
    }

    private static void applications() {
        Traced k = new Traced(8, 4);
        int ab = k.mkFun(1, 2);
        int f = k.mkVar(0, ab);
        int x = k.mkVar(1, 1);
        String before = Due.types(k);
        Due.is("mkComb(f,x)", k.mkComb(f, x), 2);
        Due.term("f x", k, 2, Due.COMB, Due.var(0, ab), Due.var(1, 1));
        Due.is("type of f x", k.termType(2), 2);
        int eq = k.mkEq(0);
        int p = k.mkVar(3, 0);
        int half = k.mkComb(eq, p);
        Due.is("type of EQ p", k.termType(half), 3);
        int whole = k.mkComb(half, p);
        Due.term("EQ p p", k, whole, Due.COMB, Due.COMB, Due.eq(0), Due.var(3, 0), Due.var(3, 0));
        Due.is("type of EQ p p", k.termType(whole), 0);
        Due.is("size of EQ p p", k.termSize(whole), 5);
        Due.term("f", k, f, Due.var(0, ab));
        Due.term("x", k, x, Due.var(1, 1));
        Due.same("types after mkComb", Due.types(k), before);
    }

    private static void wrongApplications() {
        Traced k = new Traced(8, 4);
        int f = k.mkVar(0, k.mkFun(1, 2));
        int x = k.mkVar(1, 1);
        int y = k.mkVar(1, 2);
        int p = k.mkVar(1, 0);
        for (int bad : NEVER_HANDLES) {
            Due.refused("mkComb(" + bad + ",x)", k, () -> k.mkComb(bad, x));
            Due.refused("mkComb(f," + bad + ")", k, () -> k.mkComb(f, bad));
        }
        Due.refused("mkComb(f,4), one too far", k, () -> k.mkComb(f, 4));
        Due.refused("mkComb(4,x), one too far", k, () -> k.mkComb(4, x));
        Due.refused("mkComb(f,y) of another type", k, () -> k.mkComb(f, y));
        Due.refused("mkComb(f,f)", k, () -> k.mkComb(f, f));
        Due.refused("mkComb(x,f), no function", k, () -> k.mkComb(x, f));
        Due.refused("mkComb(p,p), no function", k, () -> k.mkComb(p, p));
        Due.refused("mkComb(x,p), no function", k, () -> k.mkComb(x, p));
    }

    private static void largestApplication() {
        Traced k = new Traced(32, 4);
        int f = k.mkVar(0, 3);
        int p = k.mkVar(0, 0);
        int t15 = Due.chain(k, f, p, 7);
        int t31 = Due.chain(k, f, t15, 8);
        Due.is("size of f^15 p", k.termSize(t31), 31);
        Due.refused("an application of size 33", k, () -> k.mkComb(f, t31));
        int g16 = k.mkAbs(p, t15);
        int t32 = k.mkComb(g16, t15);
        Due.is("an application of size 32", k.termSize(t32), 32);
        Due.is("its first node", k.termNode(t32, 0), Due.COMB);
        Due.is("its last node", k.termNode(t32, 31), Due.var(0, 0));
        Due.is("the node behind it", k.termNode(t32, 32), -1);
        Due.refused("an application of size 34", k, () -> k.mkComb(f, t32));
        int t16 = Due.chain(k, f, k.mkComb(k.mkAbs(p, p), p), 6);
        Due.is("size of f^6 ((\\p. p) p)", k.termSize(t16), 16);
        Due.refused("another application of size 33", k, () -> k.mkComb(g16, t16));
    }

    private static void abstractions() {
        Traced k = new Traced(16, 4);
        int x = k.mkVar(2, 1);
        int other = k.mkVar(2, 2);
        int otherId = k.mkVar(3, 1);
        Due.is("mkAbs(x,x)", k.mkAbs(x, x), 3);
        Due.is("typeCount() after it", k.typeCount(), 6);
        Due.is("type of \\x. x", k.termType(3), 5);
        Due.is("typeArg(5,0)", k.typeArg(5, 0), 1);
        Due.is("typeArg(5,1)", k.typeArg(5, 1), 1);
        Due.term("\\x. x", k, 3, Due.abs(1), Due.bound(0, 1));
        int constant = k.mkAbs(x, other);
        Due.term("\\x. y of the same number", k, constant, Due.abs(1), Due.var(2, 2));
        Due.is("type of it", k.termType(constant), 6);
        Due.is("typeArg(6,1)", k.typeArg(6, 1), 2);
        int free = k.mkAbs(x, otherId);
        Due.term("\\x. y of the same type", k, free, Due.abs(1), Due.var(3, 1));
        Due.is("type of it", k.termType(free), 5);
        Due.is("typeCount() at the end", k.typeCount(), 7);
        Due.term("x", k, x, Due.var(2, 1));
    }

    private static void abstractionUnderAbstraction() {
        Traced k = new Traced(16, 4);
        int x = k.mkVar(0, 0);
        int y = k.mkVar(1, 0);
        int eq = k.mkEq(0);
        int equation = k.mkComb(k.mkComb(eq, x), y);
        int inner = k.mkAbs(y, equation);
        Due.term("\\y. x = y", k, inner, Due.abs(0), Due.COMB, Due.COMB, Due.eq(0),
                Due.var(0, 0), Due.bound(0, 0));
        int outer = k.mkAbs(x, inner);
        Due.term("\\x y. x = y", k, outer, Due.abs(0), Due.abs(0), Due.COMB, Due.COMB,
                Due.eq(0), Due.bound(1, 0), Due.bound(0, 0));
        Due.is("type of it", k.termType(outer), 4);
        // Here x stands under no, one and again no ABS node of the body.
        int g = k.mkVar(2, k.mkFun(0, k.mkFun(3, 3)));
        int left = k.mkComb(k.mkComb(g, x), inner);
        int body = k.mkComb(left, x);
        int mixed = k.mkAbs(x, body);
        Due.term("\\x. g x (\\y. x = y) x", k, mixed, Due.abs(0), Due.COMB, Due.COMB, Due.COMB,
                Due.var(2, k.typeCount() - 1), Due.bound(0, 0), Due.abs(0), Due.COMB, Due.COMB,
                Due.eq(0), Due.bound(1, 0), Due.bound(0, 0), Due.bound(0, 0));
        Due.term("the body stays", k, inner, Due.abs(0), Due.COMB, Due.COMB, Due.eq(0),
                Due.var(0, 0), Due.bound(0, 0));
    }

    private static void wrongAbstractions() {
        Traced k = new Traced(16, 4);
        int x = k.mkVar(0, 1);
        int eq = k.mkEq(0);
        int p = k.mkVar(0, 0);
        int comb = k.mkComb(eq, p);
        int abs = k.mkAbs(p, p);
        int count = 5;
        for (int bad : NEVER_HANDLES) {
            Due.refused("mkAbs(" + bad + ",x)", k, () -> k.mkAbs(bad, x));
            Due.refused("mkAbs(x," + bad + ")", k, () -> k.mkAbs(x, bad));
        }
        Due.refused("mkAbs, v one too far", k, () -> k.mkAbs(count, x));
        Due.refused("mkAbs, s one too far", k, () -> k.mkAbs(x, count));
        Due.refused("mkAbs(EQ,x)", k, () -> k.mkAbs(eq, x));
        Due.refused("mkAbs(COMB,x)", k, () -> k.mkAbs(comb, x));
        Due.refused("mkAbs(ABS,x)", k, () -> k.mkAbs(abs, x));
    }

    private static void largestAbstraction() {
        Traced k = new Traced(32, 4);
        int f = k.mkVar(0, 3);
        int p = k.mkVar(0, 0);
        int t31 = Due.chain(k, f, p, 15);
        int t32 = k.mkAbs(p, t31);
        Due.is("an abstraction of size 32", k.termSize(t32), 32);
        Due.is("its last node", k.termNode(t32, 31), Due.bound(0, 0));
        Due.is("the node behind it", k.termNode(t32, 32), -1);
        Due.refused("an abstraction of size 33", k, () -> k.mkAbs(p, t32));
        Due.refused("an abstraction of size 33, new type", k, () -> k.mkAbs(f, t32));
    }

    private static void abstractionsAtTheEndOfTheTable() {
        Traced k = new Traced(16, 4);
        Due.fillTypes(k, 47);
        int p = k.mkVar(0, 0);
        int x = k.mkVar(0, 1);
        int y = k.mkVar(0, 2);
        int constant = k.mkAbs(x, x);
        Due.is("the last type", k.termType(constant), 47);
        Due.refused("mkAbs(y,p), no room for its type", k, () -> k.mkAbs(y, p));
        Due.is("mkAbs(x,x) again, its type is there", k.termType(k.mkAbs(x, x)), 47);
        Due.is("mkAbs(p,p)", k.termType(k.mkAbs(p, p)), 3);
    }

    private static void fullArena() {
        Traced k = new Traced(8, 4);
        int f = k.mkVar(0, 3);
        int p = k.mkVar(0, 0);
        int x = k.mkVar(0, 1);
        Due.fillTerms(k, 1);
        Due.is("the last term", k.mkComb(f, p), 7);
        Due.refused("mkVar in a full arena", k, () -> k.mkVar(0, 0));
        Due.refused("mkEq in a full arena", k, () -> k.mkEq(0));
        Due.refused("mkEq with new types in a full arena", k, () -> k.mkEq(1));
        Due.refused("mkComb in a full arena", k, () -> k.mkComb(f, p));
        Due.refused("mkAbs in a full arena", k, () -> k.mkAbs(p, p));
        Due.refused("mkAbs with a new type in a full arena", k, () -> k.mkAbs(x, p));
        Due.is("mkFun in a full arena", k.mkFun(1, 1), 5);
    }
}
