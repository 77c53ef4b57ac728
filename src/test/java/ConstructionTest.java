/** Promise 1, sentence by sentence: construction and the fresh state. */
public final class ConstructionTest {
    private static final int[] TERMS = {Integer.MIN_VALUE, Integer.MIN_VALUE + 1, -65536, -8, -1, 0,
        1, 7, 8, 9, 20, 31, 32, 33, 40, 256 + 8, 65536 + 8, Integer.MAX_VALUE - 1,
        Integer.MAX_VALUE};
    private static final int[] THMS = {Integer.MIN_VALUE, Integer.MIN_VALUE + 1, -65536, -4, -1, 0,
        1, 3, 4, 5, 10, 15, 16, 17, 20, 256 + 4, 65536 + 4, Integer.MAX_VALUE - 1,
        Integer.MAX_VALUE};
    private static final int[] HANDLES = {Integer.MIN_VALUE, -1, 0, 1, 4, 7, 15, 16, 31, 32,
        Integer.MAX_VALUE};

    public static void main(String[] args) {
        anyIntsAreAccepted();
        maxTermsIsClamped();
        maxThmsIsClamped();
        freshTypes();
        noTermIsThere();
        noTheoremIsThere();
        nothingCanBeMadeOfNothing();
        objectsAreApart();
        Due.end();
    }

    /** "new HolKernel(maxTerms, maxThms) accepts any int values." */
    private static void anyIntsAreAccepted() {
        for (int maxTerms : TERMS) {
            for (int maxThms : THMS) {
                Traced k = new Traced(maxTerms, maxThms);
                String what = "new HolKernel(" + maxTerms + ", " + maxThms + "): ";
                Due.is(what + "typeCount()", k.typeCount(), 5);
                Due.is(what + "first term", k.mkVar(0, 0), 0);
                Due.is(what + "first theorem", k.rule(HolKernel.R_ASSUME, 0, 0, 0), 0);
                fillTerms(what, k);
                fillThms(what, k);
            }
        }
    }

    private static void fillTerms(String what, Traced k) {
        int capacity = k.termCapacity();
        for (int t = Due.termCount(k.kernel()); t < capacity; t++) {
            Due.is(what + "term " + t, k.mkVar(0, 0), t);
        }
        Due.refused(what + "term " + capacity, k, () -> k.mkVar(0, 0));
    }

    private static void fillThms(String what, Traced k) {
        int capacity = k.thmCapacity();
        for (int th = Due.thmCount(k.kernel()); th < capacity; th++) {
            Due.is(what + "theorem " + th, k.rule(HolKernel.R_ASSUME, 0, 0, 0), th);
        }
        Due.refused(what + "theorem " + capacity, k, () -> k.rule(HolKernel.R_ASSUME, 0, 0, 0));
    }

    /** "maxTerms is clamped into 8..32 (below 8 becomes 8, above 32 becomes 32)". */
    private static void maxTermsIsClamped() {
        int[][] clamped = {{Integer.MIN_VALUE, 8}, {-1, 8}, {0, 8}, {7, 8}, {8, 8}, {9, 9},
            {31, 31}, {32, 32}, {33, 32}, {Integer.MAX_VALUE, 32}};
        for (int[] c : clamped) {
            HolKernel k = new HolKernel(c[0], 4);
            int made = 0;
            while (made < 100 && k.mkVar(0, 0) == made) {
                made++;
            }
            Due.is("room for terms with maxTerms " + c[0], made, c[1]);
        }
    }

    /** "maxThms is clamped into 4..16 the same way". */
    private static void maxThmsIsClamped() {
        int[][] clamped = {{Integer.MIN_VALUE, 4}, {-1, 4}, {0, 4}, {3, 4}, {4, 4}, {5, 5},
            {15, 15}, {16, 16}, {17, 16}, {Integer.MAX_VALUE, 16}};
        for (int[] c : clamped) {
            HolKernel k = new HolKernel(8, c[0]);
            k.mkVar(0, 0);
            int made = 0;
            while (made < 100 && k.rule(HolKernel.R_ASSUME, 0, 0, 0) == made) {
                made++;
            }
            Due.is("room for theorems with maxThms " + c[0], made, c[1]);
        }
    }

    /** "A fresh object holds exactly the five preset types (... so typeCount() is 5)". */
    private static void freshTypes() {
        Traced k = new Traced(32, 16);
        Due.same("fresh types", Due.types(k), "types 5 -1>-1 -1>-1 -1>-1 0>0 0>3");
        Due.is("fresh typeArg(5,0)", k.typeArg(5, 0), -1);
        Due.is("fresh typeArg(5,1)", k.typeArg(5, 1), -1);
        Due.is("the first new type", k.mkFun(0, 1), 5);
    }

    /** "... no terms ...: every term handle ... is invalid." */
    private static void noTermIsThere() {
        Traced k = new Traced(32, 16);
        for (int h : HANDLES) {
            Due.is("fresh termType " + h, k.termType(h), -1);
            Due.is("fresh termSize " + h, k.termSize(h), -1);
            Due.is("fresh termNode " + h, k.termNode(h, 0), -1);
        }
        Due.is("the first term", k.mkEq(0), 0);
    }

    /** "... and no theorems: ... every theorem handle is invalid." */
    private static void noTheoremIsThere() {
        Traced k = new Traced(32, 16);
        int p = k.mkVar(0, 0);
        for (int h : HANDLES) {
            Due.is("fresh hypCount " + h, k.hypCount(h), -1);
            Due.is("fresh thmSize " + h, k.thmSize(h, 0), -1);
            Due.is("fresh thmNode " + h, k.thmNode(h, 0, 0), -1);
            Due.is("fresh thmPartIs " + h, k.thmPartIs(h, 0, p), false);
        }
        Due.is("the first theorem", k.rule(HolKernel.R_REFL, p, 0, 0), 0);
    }

    /** No call that takes a term or a theorem can succeed on a fresh object. */
    private static void nothingCanBeMadeOfNothing() {
        Traced k = new Traced(32, 16);
        for (int h : HANDLES) {
            Due.refused("fresh mkComb " + h, k, () -> k.mkComb(h, h));
            Due.refused("fresh mkAbs " + h, k, () -> k.mkAbs(h, h));
            for (int kind = 1; kind <= 10; kind++) {
                int rule = kind;
                Due.refused("fresh rule " + kind + " " + h, k, () -> k.rule(rule, h, h, h));
            }
        }
    }

    private static void objectsAreApart() {
        Traced k = new Traced(8, 4);
        Traced other = new Traced(8, 4);
        int p = k.mkVar(0, HolKernel.BOOL);
        k.mkFun(1, 2);
        k.rule(HolKernel.R_ASSUME, p, 0, 0);
        Due.is("typeCount of another object", other.typeCount(), 5);
        Due.is("termSize of another object", other.termSize(0), -1);
        Due.is("hypCount of another object", other.hypCount(0), -1);
    }
}
