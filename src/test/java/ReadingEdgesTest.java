import java.util.function.IntUnaryOperator;

/**
 * The edges that promises 9 to 11 and 13 to 16 name, sentence by sentence: termType, termSize,
 * termNode, hypCount, thmSize, thmNode and thmPartIs.
 */
public final class ReadingEdgesTest {
    private static final int[] NEVER = {
        Integer.MIN_VALUE, Integer.MIN_VALUE + 1, -65536, -33, -32, -5, -4, -3, -2, -1, 97, 256,
        1 << 26, 1 << 27, 1 << 28, 1 << 29, 1 << 30, Integer.MAX_VALUE - 1, Integer.MAX_VALUE};

    // The theorems of withHypotheses() by the number of their hypotheses, and how many it makes.
    private static final int NONE = 0;
    private static final int ONE = 1;
    private static final int TWO = 4;
    private static final int THREE = 5;
    private static final int COUNT = 6;

    public static void main(String[] args) {
        termTypeOfInvalidTerms();
        termSizes();
        termNodePositions();
        termNodeOfInvalidTerms();
        hypCounts();
        hypCountOfInvalidTheorems();
        thmSizeParts();
        thmNodePositions();
        thmNodeOutOfRange();
        thmPartIsInRange();
        thmPartIsOutOfRange();
        thmPartIsEqual();
        readingChangesNothing();
        readingAFullKernel();
        Due.end();
    }

    /** The call answers -1 for every value that is never a handle, and for those beyond. */
    private static void minusOne(String call, IntUnaryOperator answer, int... more) {
        for (int x : NEVER) {
            Due.is(call + " with " + x, answer.applyAsInt(x), -1);
        }
        for (int x : more) {
            Due.is(call + " with " + x, answer.applyAsInt(x), -1);
        }
    }

    /** Promise 9: "answers the type handle of term t, or -1 if t is invalid". */
    private static void termTypeOfInvalidTerms() {
        for (int count : new int[] {0, 1, 8, 31, 32}) {
            Traced k = new Traced(32, 4);
            for (int t = 0; t < count; t++) {
                k.mkVar(0, t % 5);
            }
            for (int t = 0; t < count; t++) {
                Due.is("termType(" + t + ") of " + count, k.termType(t), t % 5);
            }
            minusOne("termType of " + count, k::termType, count, count + 1, 32, 33);
        }
    }

    /** Promise 10: "the number of nodes of term t (1..MAX_SIZE), or -1 if t is invalid". */
    private static void termSizes() {
        Traced k = new Traced(32, 4);
        Due.is("termSize(0) of a fresh object", k.termSize(0), -1);
        Sized sized = new Sized(k);
        Due.is("the least size", k.termSize(sized.p), 1);
        for (int size : new int[] {3, 4, 16, 31, 32}) {
            Due.is("size " + size, k.termSize(sized.of(size)), size);
        }
        int count = Due.termCount(k.kernel());
        Due.is("size of the newest", k.termSize(count - 1) > 0, true);
        minusOne("termSize", k::termSize, count, count + 1, 32, 33);
    }

    /** Promise 11: "It answers -1 ... if pos is not in 0..size-1". */
    private static void termNodePositions() {
        Traced k = new Traced(32, 4);
        Sized sized = new Sized(k);
        for (int size : new int[] {1, 3, 31, 32}) {
            int t = sized.of(size);
            Due.is("node 0 of size " + size, k.termNode(t, 0), size == 1 ? 65536 : 196608);
            Due.is("last node of size " + size, k.termNode(t, size - 1), 65536);
            minusOne("termNode of size " + size, pos -> k.termNode(t, pos), size, size + 1, 32, 33);
        }
    }

    /** "It answers -1 if t is invalid". */
    private static void termNodeOfInvalidTerms() {
        Traced k = new Traced(32, 4);
        minusOne("termNode of a fresh object", t -> k.termNode(t, 0), 0, 1, 31, 32);
        k.mkVar(1, 0);
        Due.is("termNode(0,0)", k.termNode(0, 0), 65792);
        minusOne("termNode", t -> k.termNode(t, 0), 1, 2, 31, 32);
    }

    /** Terms p0 to p3, and a theorem with each of 0 to 3 hypotheses, which are the first terms. */
    private static Traced withHypotheses() {
        Traced k = new Traced(32, 16);
        for (int i = 0; i < 4; i++) {
            k.mkVar(i, 0);
        }
        int refl = k.rule(HolKernel.R_REFL, 0, 0, 0);
        int p0 = k.rule(HolKernel.R_ASSUME, 0, 0, 0);
        int p1 = k.rule(HolKernel.R_ASSUME, 1, 0, 0);
        int p2 = k.rule(HolKernel.R_ASSUME, 2, 0, 0);
        int two = k.rule(HolKernel.R_DEDUCT_ANTISYM, p0, p1, 0);
        int three = k.rule(HolKernel.R_DEDUCT_ANTISYM, two, p2, 0);
        Due.is("|- p0 = p0", refl, NONE);
        Due.is("p0 |- p0", p0, ONE);
        Due.is("p0, p1 |- p0 = p1", two, TWO);
        Due.is("p0, p1, p2 |- (p0 = p1) = p2", three, THREE);
        return k;
    }

    /** Promise 13: "the number of hypotheses of theorem th (0..MAX_HYPS)". */
    private static void hypCounts() {
        Traced k = withHypotheses();
        Due.is("hypCount of none", k.hypCount(NONE), 0);
        Due.is("hypCount of one", k.hypCount(ONE), 1);
        Due.is("hypCount of two", k.hypCount(TWO), 2);
        Due.is("hypCount of three", k.hypCount(THREE), 3);
    }

    /** "... or -1 if th is invalid". */
    private static void hypCountOfInvalidTheorems() {
        Traced k = withHypotheses();
        minusOne("hypCount", k::hypCount, COUNT, COUNT + 1, 15, 16, 17);
        Traced fresh = new Traced(32, 16);
        minusOne("hypCount of a fresh object", fresh::hypCount, 0, 1, 15, 16);
        Traced full = new Traced(8, 4);
        full.mkVar(0, 0);
        for (int th = 0; th < 4; th++) {
            full.rule(HolKernel.R_ASSUME, 0, 0, 0);
        }
        Due.is("hypCount of the last of four", full.hypCount(3), 1);
        minusOne("hypCount of a full table", full::hypCount, 4, 5, 16);
    }

    /** Promise 14: "-1 if th is invalid, or if part is not in 0..hypCount(th)". */
    private static void thmSizeParts() {
        Traced k = withHypotheses();
        int[] thms = {NONE, ONE, TWO, THREE};
        for (int hyps = 0; hyps <= 3; hyps++) {
            int th = thms[hyps];
            int conclusion = hyps == 0 ? 5 : hyps == 1 ? 1 : 1 + 4 * (hyps - 1);
            Due.is("thmSize of part 0 of " + hyps, k.thmSize(th, 0), conclusion);
            for (int part = 1; part <= hyps; part++) {
                Due.is("thmSize of part " + part + " of " + hyps, k.thmSize(th, part), 1);
            }
            minusOne("thmSize, part of " + hyps, part -> k.thmSize(th, part), hyps + 1, hyps + 2, 4,
                    5, 8);
        }
        minusOne("thmSize, theorem", th -> k.thmSize(th, 0), COUNT, COUNT + 1, 15, 16);
        Traced large = new Traced(32, 16);
        int assumed = new Sized(large).assumed(32);
        Due.is("the largest conclusion", large.thmSize(assumed, 0), 32);
        Due.is("the largest hypothesis", large.thmSize(assumed, 1), 32);
    }

    /** Promise 15: "pos must be in 0..size-1 of that part". */
    private static void thmNodePositions() {
        Traced k = new Traced(32, 16);
        Sized sized = new Sized(k);
        for (int size : new int[] {1, 3, 31, 32}) {
            int th = sized.assumed(size);
            for (int part = 0; part <= 1; part++) {
                int of = part;
                String what = "part " + part + " of size " + size;
                Due.is("node 0, " + what, k.thmNode(th, part, 0), size == 1 ? 65536 : 196608);
                Due.is("last node, " + what, k.thmNode(th, part, size - 1), 65536);
                minusOne("thmNode, pos, " + what, pos -> k.thmNode(th, of, pos), size, size + 1,
                        32, 33);
            }
        }
        // The parts have sizes of their own: position 1 is in the conclusion alone.
        Traced two = withHypotheses();
        Due.is("node 1 of p0 = p1", two.thmNode(TWO, 0, 1), 196608);
        Due.is("node 1 of hypothesis p0", two.thmNode(TWO, 1, 1), -1);
        Due.is("node 1 of hypothesis p1", two.thmNode(TWO, 2, 1), -1);
    }

    /** "It answers -1 if th, part or pos is out of range". */
    private static void thmNodeOutOfRange() {
        Traced k = withHypotheses();
        minusOne("thmNode, theorem", th -> k.thmNode(th, 0, 0), COUNT, COUNT + 1, 15, 16);
        int[] thms = {NONE, ONE, TWO, THREE};
        for (int hyps = 0; hyps <= 3; hyps++) {
            int th = thms[hyps];
            Due.is("node 0 of the last part", k.thmNode(th, hyps, 0) > 0, true);
            minusOne("thmNode, part of " + hyps, part -> k.thmNode(th, part, 0), hyps + 1,
                    hyps + 2, 4, 5, 8);
        }
        for (int x : NEVER) {
            Due.is("thmNode, all " + x, k.thmNode(x, x, x), -1);
        }
    }

    /** Promise 16: "true exactly when th and part are in range, t is a valid term, and ...". */
    private static void thmPartIsInRange() {
        Traced k = withHypotheses();
        int[] thms = {NONE, ONE, TWO, THREE};
        for (int hyps = 0; hyps <= 3; hyps++) {
            for (int part = 1; part <= hyps; part++) {
                for (int t = 0; t < 4; t++) {
                    Due.is("part " + part + " of " + hyps + " is p" + t,
                            k.thmPartIs(thms[hyps], part, t), t == part - 1);
                }
            }
        }
        Due.is("part 0 of p0 |- p0", k.thmPartIs(ONE, 0, 0), true);
        Due.is("part 0 of |- p0 = p0 is not p0", k.thmPartIs(NONE, 0, 0), false);
        int equation = Due.equation(k, 0, 0);
        Due.is("part 0 of |- p0 = p0", k.thmPartIs(NONE, 0, equation), true);
        Due.is("the newest term", equation, Due.termCount(k.kernel()) - 1);
    }

    /** "Otherwise it answers false": each argument out of range, the others as they should be. */
    private static void thmPartIsOutOfRange() {
        Traced k = withHypotheses();
        int terms = Due.termCount(k.kernel());
        minusOne("thmPartIs, th", th -> k.thmPartIs(th, 0, 0) ? 1 : -1, COUNT, COUNT + 1, 15, 16);
        minusOne("thmPartIs, t", t -> k.thmPartIs(ONE, 0, t) ? 1 : -1, terms, terms + 1, 31, 32);
        int[] thms = {NONE, ONE, TWO, THREE};
        for (int hyps = 0; hyps <= 3; hyps++) {
            int th = thms[hyps];
            for (int term = 0; term < 4; term++) {
                int t = term;
                minusOne("thmPartIs, part of " + hyps, part -> k.thmPartIs(th, part, t) ? 1 : -1,
                        hyps + 1, hyps + 2, 4, 5, 8);
            }
        }
    }

    /** "... and part 'part' of theorem th equals term t (same prefix node sequence)". */
    private static void thmPartIsEqual() {
        Traced k = new Traced(32, 16);
        Sized sized = new Sized(k);
        int t32 = sized.of(32);
        int th = sized.assumed(32);
        Due.is("a term of size 32", k.thmPartIs(th, 0, t32), true);
        Due.is("the same as hypothesis", k.thmPartIs(th, 1, t32), true);
        // Another 32 nodes, of which only the last differs.
        int q = k.mkVar(1, 0);
        int half = k.mkComb(sized.eq, sized.of(13));
        int other = k.mkComb(sized.id, k.mkComb(half, k.mkComb(k.mkComb(sized.eq, sized.of(5)),
                k.mkComb(k.mkComb(sized.eq, sized.p), q))));
        Due.is("size of the other", k.termSize(other), 32);
        Due.is("31 nodes are the same", k.termNode(other, 30), k.termNode(t32, 30));
        Due.is("the last is not", k.thmPartIs(th, 0, other), false);
        Due.is("nor is it the hypothesis", k.thmPartIs(th, 1, other), false);
        Due.is("a shorter term", k.thmPartIs(th, 0, sized.of(29)), false);
        int small = sized.assumed(1);
        Due.is("a longer term", k.thmPartIs(small, 0, t32), false);
    }

    /** "It changes nothing": each of the seven, with good and bad arguments. */
    private static void readingChangesNothing() {
        Traced k = withHypotheses();
        int[] some = {Integer.MIN_VALUE, -1, 0, 1, 2, 3, 4, 5, 6, 31, 32, Integer.MAX_VALUE};
        for (int x : some) {
            Due.keeps("termType(" + x + ")", k, () -> k.termType(x));
            Due.keeps("termSize(" + x + ")", k, () -> k.termSize(x));
            Due.keeps("hypCount(" + x + ")", k, () -> k.hypCount(x));
            for (int y : some) {
                Due.keeps("termNode(" + x + "," + y + ")", k, () -> k.termNode(x, y));
                Due.keeps("thmSize(" + x + "," + y + ")", k, () -> k.thmSize(x, y));
                Due.keeps("thmNode(5," + x + "," + y + ")", k, () -> k.thmNode(THREE, x, y));
                Due.keeps("thmPartIs(5," + x + "," + y + ")", k, () -> k.thmPartIs(THREE, x, y));
            }
            Due.keeps("thmNode(" + x + ",0,0)", k, () -> k.thmNode(x, 0, 0));
            Due.keeps("thmPartIs(" + x + ",0,0)", k, () -> k.thmPartIs(x, 0, 0));
        }
    }

    /** Everything is full: the last handles can be read, those behind them can't. */
    private static void readingAFullKernel() {
        Traced k = new Traced(Integer.MAX_VALUE, Integer.MAX_VALUE);
        Due.fillTypes(k, 48);
        Due.fillTerms(k, 0);
        for (int th = 0; th < 16; th++) {
            k.rule(HolKernel.R_ASSUME, 31 - th, 0, 0);
        }
        Due.is("typeArg(47,1)", k.typeArg(47, 1), 2);
        Due.is("typeArg(48,1)", k.typeArg(48, 1), -1);
        Due.is("termType(31)", k.termType(31), 0);
        Due.is("termType(32)", k.termType(32), -1);
        Due.is("termSize(32)", k.termSize(32), -1);
        Due.is("termNode(31,0)", k.termNode(31, 0), 69376);
        Due.is("termNode(32,0)", k.termNode(32, 0), -1);
        Due.is("hypCount(15)", k.hypCount(15), 1);
        Due.is("hypCount(16)", k.hypCount(16), -1);
        Due.is("thmSize(15,1)", k.thmSize(15, 1), 1);
        Due.is("thmSize(16,0)", k.thmSize(16, 0), -1);
        Due.is("thmNode(15,1,0)", k.thmNode(15, 1, 0), 69376);
        Due.is("thmNode(16,0,0)", k.thmNode(16, 0, 0), -1);
        Due.is("thmPartIs(15,1,31)", k.thmPartIs(15, 1, 31), true);
        Due.is("thmPartIs(16,0,31)", k.thmPartIs(16, 0, 31), false);
        Due.is("thmPartIs(15,0,32)", k.thmPartIs(15, 0, 32), false);
    }
}
