/** The edges that promises 5 to 8 name, sentence by sentence: mkVar, mkEq, mkComb and mkAbs. */
public final class TermMakingEdgesTest {
    private static final int[] CAPACITIES = {Integer.MIN_VALUE, 8, 9, 31, 32, Integer.MAX_VALUE};

    public static void main(String[] args) {
        handlesCountUp();
        equalTermsHaveHandlesOfTheirOwn();
        mkVarNumbers();
        mkVarTypes();
        mkVarLeavesTypesAndTheorems();
        mkEqTypes();
        mkEqThatDoesNotFitAddsNoType();
        mkEqLeavesTheorems();
        mkCombOfInvalidTerms();
        mkCombOfNoFunction();
        mkCombOfAnotherArgument();
        mkCombSizes();
        mkCombCopies();
        mkCombNeedsNoRoomForTypes();
        mkAbsOfInvalidTerms();
        mkAbsOfNoVariable();
        mkAbsSizes();
        mkAbsVariableNeedNotOccur();
        mkAbsOfOneHandleTwice();
        mkAbsType();
        mkAbsLeavesItsTerms();
        fullArena();
        refusedCallsTakeNoHandle();
        Due.end();
    }

    /** "Term handles are given out as 0, 1, 2, ..., one per successful mkVar, mkEq, ...". */
    private static void handlesCountUp() {
        Traced k = new Traced(32, 4);
        Due.is("mkVar", k.mkVar(0, 0), 0);
        Due.is("mkEq", k.mkEq(0), 1);
        Due.is("mkComb", k.mkComb(1, 0), 2);
        Due.is("mkAbs", k.mkAbs(0, 0), 3);
        k.mkFun(1, 1);
        k.rule(HolKernel.R_REFL, 0, 0, 0);
        for (int next = 4; next < 32; next++) {
            int made = next % 4 == 0 ? k.mkVar(0, 0) : next % 4 == 1 ? k.mkEq(0)
                    : next % 4 == 2 ? k.mkComb(1, 0) : k.mkAbs(0, 0);
            Due.is("term " + next, made, next);
        }
    }

    /** "Equal terms may have different handles": every call that succeeds appends a term. */
    private static void equalTermsHaveHandlesOfTheirOwn() {
        Traced k = new Traced(8, 4);
        int f = k.mkVar(0, 3);
        int p = k.mkVar(0, 0);
        for (int[] made : new int[][] {{k.mkVar(0, 0), 2}, {k.mkEq(0), 3}, {k.mkEq(0), 4},
            {k.mkComb(f, p), 5}, {k.mkComb(f, p), 6}, {k.mkAbs(p, p), 7}}) {
            Due.is("handle of an equal term", made[0], made[1]);
        }
        Due.term("f p", k, 5, Due.COMB, Due.var(0, 3), Due.var(0, 0));
        Due.term("f p again", k, 6, Due.COMB, Due.var(0, 3), Due.var(0, 0));
    }

    /** Promise 5: "Refused if id is not in 0..MAX_VAR_ID". */
    private static void mkVarNumbers() {
        Traced k = new Traced(32, 4);
        for (int id = 0; id <= 15; id++) {
            Due.is("mkVar(" + id + ",0)", k.mkVar(id, 0), id);
            Due.term("VAR(" + id + ",0)", k, id, 65536 + id * 256);
        }
        for (int bad : new int[] {-1, 16, 17, 255, 256, 65536, Integer.MAX_VALUE, -16, -256,
            Integer.MIN_VALUE, Integer.MIN_VALUE + 1}) {
            Due.refused("mkVar(" + bad + ",0)", k, () -> k.mkVar(bad, 0));
        }
    }

    /** "... if ty is invalid". */
    private static void mkVarTypes() {
        for (int count : new int[] {5, 6, 47, 48}) {
            Traced k = new Traced(8, 4);
            Due.fillTypes(k, count);
            for (int bad : new int[] {-1, count, count + 1, 256, 65536, Integer.MAX_VALUE,
                Integer.MIN_VALUE}) {
                Due.refused("mkVar(0," + bad + ") of " + count, k, () -> k.mkVar(0, bad));
            }
            Due.is("mkVar of the last type", k.mkVar(15, count - 1), 0);
            Due.is("its type", k.termType(0), count - 1);
            Due.is("mkVar of the first type", k.mkVar(0, 0), 1);
        }
    }

    /** "The type table and the theorems do not change." */
    private static void mkVarLeavesTypesAndTheorems() {
        Traced k = new Traced(32, 4);
        k.mkVar(0, 0);
        k.rule(HolKernel.R_ASSUME, 0, 0, 0);
        k.rule(HolKernel.R_REFL, 0, 0, 0);
        String before = Due.types(k) + Due.thms(k);
        for (int i = 0; i < 31; i++) {
            k.mkVar(i % 16, i % 5);
            Due.same("types and theorems after mkVar", Due.types(k) + Due.thms(k), before);
        }
    }

    /** Promise 6: "Refused if a is invalid". */
    private static void mkEqTypes() {
        for (int count : new int[] {5, 6, 46}) {
            Traced k = new Traced(8, 4);
            Due.fillTypes(k, count);
            for (int bad : new int[] {-1, count, count + 1, 256, 65536, Integer.MAX_VALUE,
                Integer.MIN_VALUE}) {
                Due.refused("mkEq(" + bad + ") of " + count, k, () -> k.mkEq(bad));
            }
            Due.is("mkEq of the last type", k.mkEq(count - 1), 0);
            Due.term("EQ of the last type", k, 0, 131072 + count - 1);
            Due.is("its type", k.termType(0), count + 1);
            Due.is("argument of its type", k.typeArg(count + 1, 0), count - 1);
            Due.is("result of its type", k.typeArg(count + 1, 1), count);
            Due.is("argument of fun(a,BOOL)", k.typeArg(count, 0), count - 1);
            Due.is("result of fun(a,BOOL)", k.typeArg(count, 1), 0);
            Due.is("mkEq(BOOL)", k.mkEq(0), 1);
            Due.is("type of EQ(BOOL)", k.termType(1), 4);
        }
    }

    /** "... or if the types do not fit; on refusal no type is added." */
    private static void mkEqThatDoesNotFitAddsNoType() {
        Traced one = new Traced(8, 4);
        Due.fillTypes(one, 47);
        Due.refused("mkEq(A), room for one of two", one, () -> one.mkEq(1));
        Due.is("typeCount() after it", one.typeCount(), 47);
        Due.is("the next type after it", one.mkFun(1, 0), 47);
        Due.refused("mkEq(A), the first is there, no room", one, () -> one.mkEq(1));
        Due.is("mkEq(BOOL), both are there", one.mkEq(0), 0);

        Traced two = new Traced(8, 4);
        Due.fillTypes(two, 46);
        Due.is("mkEq(A), room for both", two.mkEq(1), 0);
        Due.is("mkEq(A), both are there", two.mkEq(1), 1);
        Due.refused("mkEq(B), no room", two, () -> two.mkEq(2));
    }

    /** "Theorems do not change." */
    private static void mkEqLeavesTheorems() {
        Traced k = new Traced(32, 4);
        k.mkVar(0, 0);
        k.rule(HolKernel.R_ASSUME, 0, 0, 0);
        String before = Due.thms(k);
        for (int a = 0; a < 20; a++) {
            k.mkEq(a);
            Due.same("theorems after mkEq(" + a + ")", Due.thms(k), before);
        }
    }

    /** Promise 7: "Refused if f or x is invalid". */
    private static void mkCombOfInvalidTerms() {
        for (int count : new int[] {2, 7, 31}) {
            Traced k = variablesOnly(count);
            for (int bad : new int[] {-1, count, count + 1, 32, Integer.MAX_VALUE,
                Integer.MIN_VALUE}) {
                Due.refused("mkComb(" + bad + ",p) of " + count, k, () -> k.mkComb(bad, 1));
                Due.refused("mkComb(f," + bad + ") of " + count, k, () -> k.mkComb(0, bad));
                Due.refused("mkComb(" + bad + "," + bad + ")", k, () -> k.mkComb(bad, bad));
            }
            Due.is("mkComb with the newest term", k.mkComb(0, count - 1), count);
        }
    }

    /** f and then variables of type BOOL, so many that 'count' terms are there. */
    private static Traced variablesOnly(int count) {
        Traced k = new Traced(32, 4);
        k.mkVar(0, 3);
        for (int t = 1; t < count; t++) {
            k.mkVar(t % 16, 0);
        }
        return k;
    }

    /** "Refused ... if the type of f is not fun(d,c)": a base type has no argument. */
    private static void mkCombOfNoFunction() {
        Traced k = new Traced(16, 4);
        for (int ty = 0; ty < 5; ty++) {
            k.mkVar(0, ty);
        }
        for (int base = 0; base < 3; base++) {
            int f = base;
            for (int x = 0; x < 5; x++) {
                int arg = x;
                Due.refused("mkComb(" + f + "," + x + ")", k, () -> k.mkComb(f, arg));
            }
        }
        Due.is("a function of the least type", k.mkComb(3, 0), 5);
    }

    /** "... with d the type of x". */
    private static void mkCombOfAnotherArgument() {
        Traced k = new Traced(16, 4);
        int ab = k.mkFun(1, 2);
        int f = k.mkVar(0, ab);
        int[] others = {k.mkVar(0, 0), k.mkVar(0, 2), k.mkVar(0, 3), k.mkVar(0, ab)};
        for (int x : others) {
            Due.refused("f of fun(A,B) applied to type " + k.termType(x), k, () -> k.mkComb(f, x));
        }
        int x = k.mkVar(0, 1);
        Due.is("f of fun(A,B) applied to type A", k.mkComb(f, x), 6);
        Due.is("its type", k.termType(6), 2);
        Due.refused("f applied to itself", k, () -> k.mkComb(f, f));
    }

    /** "... if 1+size(f)+size(x) > MAX_SIZE". */
    private static void mkCombSizes() {
        for (int left : new int[] {1, 2, 14, 16, 30}) {
            Traced k = new Traced(32, 4);
            Sized sized = new Sized(k);
            // A function of 'left' nodes: f itself, or an abstraction of a term.
            int f = left == 1 ? sized.f : k.mkAbs(sized.p, sized.of(left - 1));
            Due.is("size of the function", k.termSize(f), left);
            int within = left == 30 ? sized.p : sized.of(31 - left);
            if (left != 30) {
                int beyond = sized.of(32 - left);
                Due.refused("size 33, " + left + " of it f", k, () -> k.mkComb(f, beyond));
            } else {
                int three = sized.of(3);
                Due.refused("size 34, 30 of it f", k, () -> k.mkComb(f, three));
            }
            int made = k.mkComb(f, within);
            Due.is("size 32, " + left + " of it f", k.termSize(made), 32);
            Due.is("its first node", k.termNode(made, 0), Due.COMB);
            Due.is("the node behind its last", k.termNode(made, 32), -1);
        }
        Traced k = new Traced(32, 4);
        Sized sized = new Sized(k);
        int largest = k.mkAbs(sized.p, sized.of(31));
        int t32 = sized.of(32);
        Due.refused("size 65", k, () -> k.mkComb(largest, t32));
        Due.refused("size 34 with f of 32", k, () -> k.mkComb(largest, sized.p));
    }

    /** "built from copies of terms f and x", which "themselves ... do not change". */
    private static void mkCombCopies() {
        Traced k = new Traced(16, 4);
        int f = k.mkVar(1, 3);
        int p = k.mkVar(2, 0);
        int fp = k.mkComb(f, p);
        int assumed = k.rule(HolKernel.R_ASSUME, fp, 0, 0);
        String before = Due.types(k) + Due.terms(k);
        String thms = Due.thms(k);
        Due.is("f (f p)", k.mkComb(f, fp), 3);
        Due.is("old types and terms stay", (Due.types(k) + Due.terms(k)).startsWith(before), true);
        Due.same("theorems stay", Due.thms(k), thms);
        Due.term("f (f p)", k, 3, Due.COMB, Due.var(1, 3), Due.COMB, Due.var(1, 3),
                Due.var(2, 0));
        Due.is("f p is the hypothesis still", k.thmPartIs(assumed, 1, fp), true);
    }

    /** mkComb interns nothing, so a full type table doesn't stop it. */
    private static void mkCombNeedsNoRoomForTypes() {
        Traced k = new Traced(8, 4);
        Due.fillTypes(k, 48);
        int f = k.mkVar(0, 47);
        int x = k.mkVar(0, k.typeArg(47, 0));
        Due.is("mkComb with a full type table", k.mkComb(f, x), 2);
        Due.is("its type", k.termType(2), k.typeArg(47, 1));
        Due.is("typeCount()", k.typeCount(), 48);
    }

    /** Promise 8: "Refused if v or s is invalid". */
    private static void mkAbsOfInvalidTerms() {
        for (int count : new int[] {2, 7, 30}) {
            Traced k = variablesOnly(count);
            for (int bad : new int[] {-1, count, count + 1, 32, Integer.MAX_VALUE,
                Integer.MIN_VALUE}) {
                Due.refused("mkAbs(" + bad + ",p) of " + count, k, () -> k.mkAbs(bad, 1));
                Due.refused("mkAbs(p," + bad + ") of " + count, k, () -> k.mkAbs(1, bad));
                Due.refused("mkAbs(" + bad + "," + bad + ")", k, () -> k.mkAbs(bad, bad));
            }
            Due.is("mkAbs of the newest term", k.mkAbs(count - 1, 0), count);
            Due.is("mkAbs in the newest term", k.mkAbs(0, count - 1), count + 1);
        }
    }

    /** "Refused ... if v is not a VAR node". */
    private static void mkAbsOfNoVariable() {
        Traced k = new Traced(16, 4);
        int p = k.mkVar(0, 0);
        int f = k.mkVar(0, 3);
        int eq = k.mkEq(0);
        int comb = k.mkComb(f, p);
        int abs = k.mkAbs(p, p);
        for (int v : new int[] {eq, comb, abs}) {
            for (int s : new int[] {p, f, eq, comb, abs}) {
                Due.refused("mkAbs(" + v + "," + s + ")", k, () -> k.mkAbs(v, s));
            }
        }
        Due.is("mkAbs(f,comb)", k.mkAbs(f, comb), 5);
    }

    /** "... if size(s)+1 > MAX_SIZE". */
    private static void mkAbsSizes() {
        Traced k = new Traced(32, 4);
        Sized sized = new Sized(k);
        int x = k.mkVar(0, 1);
        int t31 = sized.of(31);
        int t32 = sized.of(32);
        Due.refused("mkAbs of size 33", k, () -> k.mkAbs(sized.p, t32));
        Due.refused("mkAbs of size 33 with a new type", k, () -> k.mkAbs(x, t32));
        int made = k.mkAbs(sized.p, t31);
        Due.is("mkAbs of size 32", k.termSize(made), 32);
        Due.is("its first node", k.termNode(made, 0), Due.abs(0));
        Due.is("its last node", k.termNode(made, 31), Due.bound(0, 0));
        Due.refused("mkAbs of an ABS of size 32", k, () -> k.mkAbs(x, made));
        Due.is("mkAbs of size 32 with a new type", k.termSize(k.mkAbs(x, t31)), 32);
        Due.is("typeCount() after it", k.typeCount(), 6);
    }

    /** "The variable need not occur in s." */
    private static void mkAbsVariableNeedNotOccur() {
        Traced k = new Traced(16, 4);
        int x = k.mkVar(0, 1);
        int y = k.mkVar(1, 1);
        int eq = k.mkEq(0);
        Due.term("\\x. y", k, k.mkAbs(x, y), Due.abs(1), Due.var(1, 1));
        Due.term("\\x. EQ", k, k.mkAbs(x, eq), Due.abs(1), Due.eq(0));
        int id = k.mkAbs(x, x);
        Due.term("\\x. \\x. x", k, k.mkAbs(x, id), Due.abs(1), Due.abs(1), Due.bound(0, 1));
        Due.is("size of \\x. \\x. x", k.termSize(k.mkAbs(x, id)), 3);
    }

    /** v and s are the same handle. */
    private static void mkAbsOfOneHandleTwice() {
        Traced k = new Traced(16, 4);
        int x = k.mkVar(15, 2);
        Due.term("\\x. x", k, k.mkAbs(x, x), Due.abs(2), Due.bound(0, 2));
        Due.is("type of it", k.termType(1), 5);
        Due.term("x", k, x, Due.var(15, 2));
    }

    /** "... or if the type does not fit", and "It interns the list fun(a, type of s)". */
    private static void mkAbsType() {
        Traced k = new Traced(16, 4);
        Due.fillTypes(k, 47);
        int x = k.mkVar(0, 1);
        int p = k.mkVar(0, 0);
        Due.is("mkAbs(x,p), room for its type", k.mkAbs(x, p), 2);
        Due.is("its type", k.termType(2), 47);
        Due.is("argument of the type", k.typeArg(47, 0), 1);
        Due.is("result of the type", k.typeArg(47, 1), 0);
        Due.refused("mkAbs(p,x), no room", k, () -> k.mkAbs(p, x));
        Due.refused("mkAbs(x,\\x. p), no room", k, () -> k.mkAbs(x, 2));
        Due.is("mkAbs(x,p) again, its type is there", k.mkAbs(x, p), 3);
        Due.is("mkAbs(p,p), its type is there", k.mkAbs(p, p), 4);
    }

    /** "Terms v and s and the theorems do not change." */
    private static void mkAbsLeavesItsTerms() {
        Traced k = new Traced(16, 4);
        int p = k.mkVar(0, 0);
        int fp = k.mkComb(k.mkVar(0, 3), p);
        k.rule(HolKernel.R_ASSUME, fp, 0, 0);
        String terms = Due.terms(k);
        String thms = Due.thms(k);
        Due.term("\\p. f p", k, k.mkAbs(p, fp), Due.abs(0), Due.COMB, Due.var(0, 3),
                Due.bound(0, 0));
        Due.is("the old terms stay", Due.terms(k).startsWith(terms), true);
        Due.same("the theorems stay", Due.thms(k), thms);
    }

    /** "... or if the arena is full (it already holds its capacity of terms)": for each method. */
    private static void fullArena() {
        for (int maxTerms : CAPACITIES) {
            int capacity = Math.max(8, Math.min(32, maxTerms));
            for (int last = 0; last < 4; last++) {
                Traced k = new Traced(maxTerms, 4);
                int f = k.mkVar(0, 3);
                int p = k.mkVar(0, 0);
                int x = k.mkVar(0, 1);
                Due.fillTerms(k, 1);
                int made = last == 0 ? k.mkVar(3, 1) : last == 1 ? k.mkEq(0)
                        : last == 2 ? k.mkComb(f, p) : k.mkAbs(p, p);
                String what = " in a full arena of " + capacity;
                Due.is("the last term" + what, made, capacity - 1);
                Due.refused("mkVar" + what, k, () -> k.mkVar(0, 0));
                Due.refused("mkEq" + what, k, () -> k.mkEq(0));
                Due.refused("mkEq with new types" + what, k, () -> k.mkEq(1));
                Due.refused("mkComb" + what, k, () -> k.mkComb(f, p));
                Due.refused("mkAbs" + what, k, () -> k.mkAbs(p, p));
                Due.refused("mkAbs with a new type" + what, k, () -> k.mkAbs(x, p));
                Due.is("mkFun" + what, k.mkFun(1, 1), 5);
                Due.is("R_REFL with new types" + what, k.rule(HolKernel.R_REFL, x, 0, 0), 0);
            }
        }
    }

    /** A refused call takes no handle: the next that is not refused gets it. */
    private static void refusedCallsTakeNoHandle() {
        Traced k = new Traced(16, 4);
        k.mkVar(16, 0);
        k.mkEq(5);
        k.mkComb(0, 0);
        k.mkAbs(0, 0);
        Due.is("the first handle after four refusals", k.mkVar(1, 0), 0);
        k.mkVar(-1, 0);
        k.mkEq(-1);
        k.mkComb(0, 0);
        k.mkAbs(1, 0);
        Due.is("the second handle after four more", k.mkEq(0), 1);
        Due.term("the first term", k, 0, Due.var(1, 0));
        Due.term("the second term", k, 1, Due.eq(0));
    }
}
