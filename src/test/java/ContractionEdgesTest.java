/**
 * The section 'Contraction and normal order' and the limits of R_BETA_NORM, sentence by sentence.
 * BOUND nodes that refer to the outside of a redex can be had under an ABS only, where
 * R_BETA_NORM contracts it; terms that are contracted once show the contraction itself.
 */
public final class ContractionEdgesTest {
    private static final int BETA = HolKernel.R_BETA;
    private static final int NORM = HolKernel.R_BETA_NORM;

    private Traced k;
    private int x;
    private int y;
    private int z;
    private int w;
    private int v;
    private int g;

    /** Variables of type BOOL, and g of type fun(BOOL,fun(BOOL,BOOL)). */
    private ContractionEdgesTest() {
        k = new Traced(32, 16);
        x = k.mkVar(0, 0);
        y = k.mkVar(1, 0);
        z = k.mkVar(2, 0);
        w = k.mkVar(3, 0);
        v = k.mkVar(4, 0);
        g = k.mkVar(5, 4);
    }

    public static void main(String[] args) {
        new ContractionEdgesTest().innerBoundStays();
        new ContractionEdgesTest().boundOfTheRedexBecomesTheArgument();
        new ContractionEdgesTest().argumentIsNotLiftedAtDepthZero();
        new ContractionEdgesTest().argumentIsLifted();
        new ContractionEdgesTest().argumentsOwnBoundStays();
        new ContractionEdgesTest().outerBoundComesNearer();
        new ContractionEdgesTest().otherNodesAreCopied();
        new ContractionEdgesTest().whatStandsAroundStays();
        new ContractionEdgesTest().argumentGoes();
        new ContractionEdgesTest().whatIsARedex();
        new ContractionEdgesTest().stopsWithoutRedex();
        new ContractionEdgesTest().newRedexes();
        new ContractionEdgesTest().outerBeforeInner();
        new ContractionEdgesTest().innerWouldHaveBeenSmaller();
        new ContractionEdgesTest().leftBeforeRight();
        sizesBetween();
        sizesBetweenInTheSecondStep();
        sizeOfTheResult();
        Due.end();
    }

    private int g(int s, int t) {
        return k.mkComb(k.mkComb(g, s), t);
    }

    /** That R_BETA_NORM takes t to the term with these nodes. */
    private void normal(String what, int t, int... nodes) {
        int made = k.rule(NORM, t, 0, 0);
        Due.is(what + " is taken", made >= 0, true);
        int from = 3 + k.termSize(t);
        Due.is(what + ", size", k.thmSize(made, 0), from + nodes.length);
        for (int i = 0; i < nodes.length; i++) {
            Due.is(what + ", node " + i, k.thmNode(made, 0, from + i), nodes[i]);
        }
        for (int i = 0; i < k.termSize(t); i++) {
            Due.is(what + ", node " + i + " of the left side", k.thmNode(made, 0, 3 + i),
                    k.termNode(t, i));
        }
        Audit.check(what, k.kernel());
    }

    /** "BOUND(j,b) with j < k stays as it is". */
    private void innerBoundStays() {
        int body = k.mkAbs(y, k.mkAbs(z, g(y, z)));
        int t = k.mkComb(k.mkAbs(x, body), w);
        normal("(\\x y z. g y z) w", t, Due.abs(0), Due.abs(0), Due.COMB, Due.COMB, Due.var(5, 4),
                Due.bound(1, 0), Due.bound(0, 0));
    }

    /** "BOUND(j,b) with j = k is replaced by a copy of u": under no, one and two ABS nodes. */
    private void boundOfTheRedexBecomesTheArgument() {
        normal("(\\x. x) w", k.mkComb(k.mkAbs(x, x), w), Due.var(3, 0));
        normal("(\\x y. x) w", k.mkComb(k.mkAbs(x, k.mkAbs(y, x)), w), Due.abs(0), Due.var(3, 0));
        int two = k.mkComb(k.mkAbs(x, k.mkAbs(y, k.mkAbs(z, x))), w);
        normal("(\\x y z. x) w", two, Due.abs(0), Due.abs(0), Due.var(3, 0));
        int both = k.mkComb(k.mkAbs(x, g(x, x)), g(w, v));
        normal("(\\x. g x x) (g w v)", both, Due.COMB, Due.COMB, Due.var(5, 4), Due.COMB, Due.COMB,
                Due.var(5, 4), Due.var(3, 0), Due.var(4, 0), Due.COMB, Due.COMB, Due.var(5, 4),
                Due.var(3, 0), Due.var(4, 0));
    }

    /** "... every BOUND(m,c) ... becomes BOUND(m+k,c)" with k = 0. */
    private void argumentIsNotLiftedAtDepthZero() {
        int t = k.mkAbs(w, k.mkComb(k.mkAbs(x, x), w));
        normal("\\w. (\\x. x) w", t, Due.abs(0), Due.bound(0, 0));
        int far = k.mkAbs(v, k.mkAbs(w, k.mkComb(k.mkAbs(x, x), v)));
        normal("\\v w. (\\x. x) v", far, Due.abs(0), Due.abs(0), Due.bound(1, 0));
    }

    /** "... with m >= n becomes BOUND(m+k,c)": m = n and m = n + 1, k = 1 and k = 2. */
    private void argumentIsLifted() {
        int one = k.mkAbs(w, k.mkComb(k.mkAbs(x, k.mkAbs(y, x)), w));
        normal("\\w. (\\x y. x) w", one, Due.abs(0), Due.abs(0), Due.bound(1, 0));
        int two = k.mkAbs(w, k.mkComb(k.mkAbs(x, k.mkAbs(y, k.mkAbs(z, x))), w));
        normal("\\w. (\\x y z. x) w", two, Due.abs(0), Due.abs(0), Due.abs(0), Due.bound(2, 0));
        int outer = k.mkAbs(v, k.mkAbs(w, k.mkComb(k.mkAbs(x, k.mkAbs(y, x)), g(v, w))));
        normal("\\v w. (\\x y. x) (g v w)", outer, Due.abs(0), Due.abs(0), Due.abs(0), Due.COMB,
                Due.COMB, Due.var(5, 4), Due.bound(2, 0), Due.bound(1, 0));
    }

    /** In u "lying under n ABS nodes of u": m = n - 1 stays, m = n is lifted. */
    private void argumentsOwnBoundStays() {
        int f = k.mkVar(6, 3);
        int takes = k.mkAbs(f, k.mkAbs(y, f));
        int argument = k.mkAbs(z, g(z, w));
        int t = k.mkAbs(w, k.mkComb(takes, argument));
        normal("\\w. (\\f y. f) (\\z. g z w)", t, Due.abs(0), Due.abs(0), Due.abs(0), Due.COMB,
                Due.COMB, Due.var(5, 4), Due.bound(0, 0), Due.bound(2, 0));
        int h = k.mkVar(7, 4);
        int takesTwo = k.mkAbs(h, k.mkAbs(y, h));
        int deeper = k.mkAbs(v, k.mkAbs(z, g(v, w)));
        int t2 = k.mkAbs(w, k.mkComb(takesTwo, deeper));
        normal("\\w. (\\h y. h) (\\v z. g v w)", t2, Due.abs(0), Due.abs(0), Due.abs(0),
                Due.abs(0), Due.COMB, Due.COMB, Due.var(5, 4), Due.bound(1, 0), Due.bound(3, 0));
    }

    /** "BOUND(j,b) with j > k becomes BOUND(j-1,b)": j = k + 1 and j = k + 2, k = 0 and k = 1. */
    private void outerBoundComesNearer() {
        int near = k.mkAbs(w, k.mkComb(k.mkAbs(x, w), y));
        normal("\\w. (\\x. w) y", near, Due.abs(0), Due.bound(0, 0));
        int far = k.mkAbs(v, k.mkAbs(w, k.mkComb(k.mkAbs(x, g(v, w)), y)));
        normal("\\v w. (\\x. g v w) y", far, Due.abs(0), Due.abs(0), Due.COMB, Due.COMB,
                Due.var(5, 4), Due.bound(1, 0), Due.bound(0, 0));
        int deep = k.mkAbs(v, k.mkAbs(w, k.mkComb(k.mkAbs(x, k.mkAbs(z, g(v, w))), y)));
        normal("\\v w. (\\x z. g v w) y", deep, Due.abs(0), Due.abs(0), Due.abs(0), Due.COMB,
                Due.COMB, Due.var(5, 4), Due.bound(2, 0), Due.bound(1, 0));
    }

    /** "All other nodes are copied as they are": the nodes that binders took hold of are not. */
    private void otherNodesAreCopied() {
        int eq = k.mkEq(0);
        int body = k.mkComb(k.mkComb(eq, g(y, x)), y);
        int t = k.mkComb(k.mkAbs(x, body), y);
        normal("(\\x. g y x = y) y", t, Due.COMB, Due.COMB, Due.eq(0), Due.COMB, Due.COMB,
                Due.var(5, 4), Due.var(1, 0), Due.var(1, 0), Due.var(1, 0));
        // The free y of the argument is not caught where the body binds a y of its own.
        int catches = k.mkComb(k.mkAbs(x, k.mkAbs(y, g(x, y))), y);
        normal("(\\x y. g x y) y", catches, Due.abs(0), Due.COMB, Due.COMB, Due.var(5, 4),
                Due.var(1, 0), Due.bound(0, 0));
    }

    /** What stands left and right of the redex in the whole term is the same after it. */
    private void whatStandsAroundStays() {
        int redex = k.mkComb(k.mkAbs(x, x), w);
        int t = k.mkAbs(w, k.mkAbs(v, g(g(w, redex), v)));
        normal("\\w v. g (g w ((\\x. x) w)) v", t, Due.abs(0), Due.abs(0), Due.COMB, Due.COMB,
                Due.var(5, 4), Due.COMB, Due.COMB, Due.var(5, 4), Due.bound(1, 0),
                Due.bound(1, 0), Due.bound(0, 0));
    }

    /** A body without the bound variable: the argument goes, whatever is in it. */
    private void argumentGoes() {
        int t = k.mkAbs(w, k.mkComb(k.mkAbs(x, y), g(w, k.mkComb(k.mkAbs(x, x), w))));
        normal("\\w. (\\x. y) (g w ((\\x. x) w))", t, Due.abs(0), Due.var(1, 0));
    }

    /** "A redex is a COMB node whose first child is an ABS node." */
    private void whatIsARedex() {
        int ofFunction = k.mkVar(6, k.mkFun(3, 0));
        int id = k.mkAbs(x, x);
        int second = k.mkComb(ofFunction, id);
        normal("h (\\x. x) has none", second, Due.COMB, Due.var(6, 5), Due.abs(0),
                Due.bound(0, 0));
        Due.refused("R_BETA of h (\\x. x)", k, () -> k.rule(BETA, second, 0, 0));
        Due.refused("R_BETA of \\x. x", k, () -> k.rule(BETA, id, 0, 0));
        int left = k.mkComb(k.mkComb(k.mkAbs(x, k.mkAbs(y, x)), w), v);
        Due.refused("R_BETA of (\\x y. x) w v", k, () -> k.rule(BETA, left, 0, 0));
        normal("(\\x y. x) w v", left, Due.var(3, 0));
    }

    /** "The sequence stops at the first tn that has no redex": at once, or after one step. */
    private void stopsWithoutRedex() {
        normal("x", x, Due.var(0, 0));
        normal("\\x. x", k.mkAbs(x, x), Due.abs(0), Due.bound(0, 0));
        normal("g x y", g(x, y), Due.COMB, Due.COMB, Due.var(5, 4), Due.var(0, 0), Due.var(1, 0));
        normal("EQ", k.mkEq(0), Due.eq(0));
        normal("(\\x. x) y", k.mkComb(k.mkAbs(x, x), y), Due.var(1, 0));
    }

    /** A contraction that makes a redex that was not there before. */
    private void newRedexes() {
        int f = k.mkVar(6, 3);
        int apply = k.mkAbs(f, k.mkComb(f, w));
        int t = k.mkComb(apply, k.mkAbs(x, g(x, x)));
        normal("(\\f. f w) (\\x. g x x)", t, Due.COMB, Due.COMB, Due.var(5, 4), Due.var(3, 0),
                Due.var(3, 0));
        int up = k.mkComb(k.mkComb(k.mkAbs(x, k.mkAbs(y, y)), w), v);
        normal("(\\x y. y) w v", up, Due.var(4, 0));
    }

    /** "The leftmost redex ... comes first in prefix order": an outer one before what it holds. */
    private void outerBeforeInner() {
        // The argument would grow to 45 nodes, but the outer redex throws it away first.
        int grows = k.mkComb(k.mkAbs(x, g(x, g(x, x))), g(g(y, y), g(y, v)));
        Due.is("size of what would grow", k.termSize(grows), 24);
        int t = k.mkComb(k.mkAbs(x, y), grows);
        normal("(\\x. y) (...)", t, Due.var(1, 0));
        Due.refused("R_BETA_NORM of the argument itself", k, () -> k.rule(NORM, grows, 0, 0));
    }

    /** The other way round: inside first, all would fit; outside first it does not. */
    private void innerWouldHaveBeenSmaller() {
        int small = g(v, v);
        int thrice = k.mkAbs(x, k.mkComb(k.mkAbs(y, w), g(x, g(x, x))));
        int shrinks = k.mkComb(k.mkAbs(z, y), small);
        int t = k.mkComb(thrice, shrinks);
        Due.is("size", k.termSize(t), 22);
        Due.refused("three copies before the argument shrinks, 33 nodes", k,
                () -> k.rule(NORM, t, 0, 0));
        int argument = k.mkComb(k.mkAbs(z, y), v);
        normal("three copies of a smaller one", k.mkComb(thrice, argument), Due.var(3, 0));
    }

    /** Of two redexes side by side the left one is first, and here it throws away the right. */
    private void leftBeforeRight() {
        int grows = k.mkComb(k.mkAbs(x, g(x, g(x, x))), g(g(y, y), v));
        Due.is("size of what would grow", k.termSize(grows), 20);
        int left = k.mkComb(k.mkAbs(z, k.mkAbs(x, y)), v);
        int t = k.mkComb(left, grows);
        Due.is("size of both", k.termSize(t), 26);
        normal("(\\z x. y) v (...)", t, Due.var(1, 0));
        Due.refused("R_BETA_NORM of the right one", k, () -> k.rule(NORM, grows, 0, 0));
    }

    /** "Refused if any of t0..tn has more than MAX_SIZE nodes": t1 has 32, or 33. */
    private static void sizesBetween() {
        for (int extra = 0; extra <= 1; extra++) {
            Traced k = new Traced(32, 16);
            Sized sized = new Sized(k);
            int x = k.mkVar(9, 0);
            int y = k.mkVar(8, 0);
            // (\x. (\y. p) (x = x)) t13 goes over 32 nodes to p, and over 33 with (\y y. p).
            int constant = k.mkAbs(y, sized.p);
            int function = extra == 0 ? constant : k.mkAbs(y, constant);
            int xx = k.mkComb(k.mkComb(sized.eq, x), x);
            int t = k.mkComb(k.mkAbs(x, k.mkComb(function, xx)), sized.of(13));
            Due.is("size of t0", k.termSize(t), 23 + extra);
            if (extra == 0) {
                Due.is("t1 has 32 nodes", k.thmSize(k.rule(NORM, t, 0, 0), 0), 27);
            } else {
                Due.refused("t1 has 33 nodes", k, () -> k.rule(NORM, t, 0, 0));
            }
        }
    }

    /** The same where t1 is small and t2 has 32 or 33 nodes. */
    private static void sizesBetweenInTheSecondStep() {
        for (int extra = 0; extra <= 1; extra++) {
            Traced k = new Traced(32, 16);
            Sized sized = new Sized(k);
            int x = k.mkVar(9, 0);
            int y = k.mkVar(8, 0);
            int constant = k.mkAbs(y, sized.p);
            int function = extra == 0 ? constant : k.mkAbs(y, constant);
            int xx = k.mkComb(k.mkComb(sized.eq, x), x);
            int grows = k.mkAbs(x, k.mkComb(function, xx));
            int t = k.mkComb(k.mkComb(k.mkAbs(y, grows), y), sized.of(13));
            Due.is("size of t0", k.termSize(t), 26 + extra);
            if (extra == 0) {
                Due.is("t2 has 32 nodes", k.thmSize(k.rule(NORM, t, 0, 0), 0), 30);
            } else {
                Due.refused("t2 has 33 nodes", k, () -> k.rule(NORM, t, 0, 0));
            }
        }
    }

    /** "Result: |- t = tn": 3 + size(t) + size(tn) is 31 or 32, or 33 and more. */
    private static void sizeOfTheResult() {
        Traced k = new Traced(32, 16);
        Sized sized = new Sized(k);
        int within = k.mkComb(sized.id, sized.of(13));
        Due.is("R_BETA_NORM of size 32", k.thmSize(k.rule(NORM, within, 0, 0), 0), 32);
        int beyond = sized.of(15);
        Due.refused("R_BETA_NORM without redex, size 33", k, () -> k.rule(NORM, beyond, 0, 0));
        int constant = k.mkAbs(sized.f, sized.of(13));
        int odd = k.mkComb(constant, sized.id);
        Due.refused("R_BETA_NORM with a redex, size 33", k, () -> k.rule(NORM, odd, 0, 0));
        int one = k.mkComb(constant, sized.f);
        Due.is("R_BETA_NORM with a redex, size 32", k.thmSize(k.rule(NORM, one, 0, 0), 0), 32);
        int largest = k.mkComb(k.mkAbs(sized.p, sized.eq), sized.of(24));
        Due.is("t of 27 nodes", k.termSize(largest), 27);
        Due.is("R_BETA_NORM of t with 27 nodes", k.thmSize(k.rule(NORM, largest, 0, 0), 0), 31);
    }
}
