/** Promises 13 to 16: hypCount, thmSize, thmNode and thmPartIs. */
public final class TheoremReadingTest {
    private static final int[] WRONG = {
        -1, Integer.MIN_VALUE, Integer.MAX_VALUE, 4, 16, 17, 32, 96};

    public static void main(String[] args) {
        Traced k = new Traced(32, 16);
        int p = k.mkVar(0, 0);
        int q = k.mkVar(1, 0);
        int fp = k.mkComb(k.mkVar(2, 3), p);
        int none = k.rule(HolKernel.R_REFL, p, 0, 0);
        int one = k.rule(HolKernel.R_ASSUME, fp, 0, 0);
        int hypQ = k.rule(HolKernel.R_ASSUME, q, 0, 0);
        int two = k.rule(HolKernel.R_DEDUCT_ANTISYM, one, hypQ, 0);
        sizes(k, none, one, two);
        nodes(k, none, one, two);
        parts(k, two, fp, q, p);
        wrongArguments(k, none, two, q);
        nothingChanges(k);
        Due.end();
    }

    private static void sizes(Traced k, int none, int one, int two) {
        Due.is("hypCount of p = p", k.hypCount(none), 0);
        Due.is("hypCount of f p |- f p", k.hypCount(one), 1);
        Due.is("hypCount of q, f p |- f p = q", k.hypCount(two), 2);
        Due.is("thmSize of p = p", k.thmSize(none, 0), 5);
        Due.is("thmSize of f p |- f p, 0", k.thmSize(one, 0), 3);
        Due.is("thmSize of f p |- f p, 1", k.thmSize(one, 1), 3);
        Due.is("thmSize of q, f p |- f p = q, 0", k.thmSize(two, 0), 7);
        Due.is("thmSize of q, f p |- f p = q, 1", k.thmSize(two, 1), 1);
        Due.is("thmSize of q, f p |- f p = q, 2", k.thmSize(two, 2), 3);
        Due.is("thmSize of a part that is not there, 1", k.thmSize(none, 1), -1);
        Due.is("thmSize of a part that is not there, 2", k.thmSize(one, 2), -1);
        Due.is("thmSize of a part that is not there, 3", k.thmSize(two, 3), -1);
    }

    private static void nodes(Traced k, int none, int one, int two) {
        Due.part("p = p", k, none, 0, 196608, 196608, 131072, 65536, 65536);
        Due.part("f p |- f p", k, one, 1, 196608, 66051, 65536);
        Due.part("f p = q", k, two, 0, 196608, 196608, 131072, 196608, 66051, 65536, 65792);
        Due.part("q", k, two, 1, 65792);
        Due.part("f p", k, two, 2, 196608, 66051, 65536);
        Due.is("thmNode of a part that is not there, 1", k.thmNode(none, 1, 0), -1);
        Due.is("thmNode of a part that is not there, 3", k.thmNode(two, 3, 0), -1);
    }

    private static void parts(Traced k, int two, int fp, int q, int p) {
        int conclusion = Due.equation(k, fp, q);
        int otherWay = Due.equation(k, q, fp);
        int copy = k.mkVar(1, 0);
        int sameIdOtherType = k.mkVar(1, 1);
        Due.is("part 0", k.thmPartIs(two, 0, conclusion), true);
        Due.is("part 0, q = f p", k.thmPartIs(two, 0, otherWay), false);
        Due.is("part 0 is not its left side", k.thmPartIs(two, 0, fp), false);
        Due.is("part 1", k.thmPartIs(two, 1, q), true);
        Due.is("part 1, another handle of q", k.thmPartIs(two, 1, copy), true);
        Due.is("part 1, another type", k.thmPartIs(two, 1, sameIdOtherType), false);
        Due.is("part 1, another variable", k.thmPartIs(two, 1, p), false);
        Due.is("part 1 is not part 2", k.thmPartIs(two, 1, fp), false);
        Due.is("part 2", k.thmPartIs(two, 2, fp), true);
        Due.is("part 2 is not part 1", k.thmPartIs(two, 2, q), false);
        Due.is("part 3", k.thmPartIs(two, 3, fp), false);
    }

    private static void wrongArguments(Traced k, int none, int two, int q) {
        for (int bad : WRONG) {
            Due.is("hypCount(" + bad + ")", k.hypCount(bad), -1);
            Due.is("thmSize(" + bad + ",0)", k.thmSize(bad, 0), -1);
            Due.is("thmSize(two," + bad + ")", k.thmSize(two, bad), -1);
            Due.is("thmNode(" + bad + ",0,0)", k.thmNode(bad, 0, 0), -1);
            Due.is("thmNode(two," + bad + ",0)", k.thmNode(two, bad, 0), -1);
            Due.is("thmNode(two,1," + bad + ")", k.thmNode(two, 1, bad), -1);
            Due.is("thmPartIs(" + bad + ",0,q)", k.thmPartIs(bad, 1, q), false);
            Due.is("thmPartIs(two," + bad + ",q)", k.thmPartIs(two, bad, q), false);
        }
        for (int bad : new int[] {-1, Integer.MIN_VALUE, Integer.MAX_VALUE, 32, 33, 96}) {
            Due.is("thmPartIs(two,1," + bad + ")", k.thmPartIs(two, 1, bad), false);
        }
        // Part 4 of one theorem must not be read as part 0 of the next.
        Due.is("thmSize(none,4)", k.thmSize(none, 4), -1);
        Due.is("thmNode(none,4,0)", k.thmNode(none, 4, 0), -1);
        Due.is("thmSize(1,-4)", k.thmSize(1, -4), -1);
    }

    private static void nothingChanges(Traced k) {
        int types = k.typeCount();
        Due.is("the next theorem after reading", k.rule(HolKernel.R_ASSUME, 0, 0, 0), 4);
        Due.is("the types after reading", k.typeCount(), types);
    }
}
