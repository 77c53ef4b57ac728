/** Promise 1: construction and the fresh state. */
public final class ConstructionTest {
    public static void main(String[] args) {
        capacities(8, 4, 8, 4);
        capacities(32, 16, 32, 16);
        capacities(9, 5, 9, 5);
        capacities(31, 15, 31, 15);
        capacities(7, 3, 8, 4);
        capacities(33, 17, 32, 16);
        capacities(0, 0, 8, 4);
        capacities(-1, -1, 8, 4);
        capacities(8, 16, 8, 16);
        capacities(32, 4, 32, 4);
        capacities(Integer.MIN_VALUE, Integer.MAX_VALUE, 8, 16);
        capacities(Integer.MAX_VALUE, Integer.MIN_VALUE, 32, 4);
        freshState();
        objectsAreApart();
        Due.end();
    }

    private static void capacities(int maxTerms, int maxThms, int terms, int thms) {
        String what = "new HolKernel(" + maxTerms + ", " + maxThms + "): ";
        Traced k = new Traced(maxTerms, maxThms);
        for (int t = 0; t < terms; t++) {
            Due.is(what + "term " + t, k.mkVar(0, HolKernel.BOOL), t);
        }
        Due.refused(what + "one term more", k, () -> k.mkVar(0, HolKernel.BOOL));
        for (int th = 0; th < thms; th++) {
            Due.is(what + "theorem " + th, k.rule(HolKernel.R_ASSUME, 0, 0, 0), th);
        }
        Due.refused(what + "one theorem more", k, () -> k.rule(HolKernel.R_ASSUME, 0, 0, 0));
    }

    private static void freshState() {
        Traced k = new Traced(32, 16);
        Due.same("fresh types", Due.types(k), "types 5 -1>-1 -1>-1 -1>-1 0>0 0>3");
        for (int h : new int[] {Integer.MIN_VALUE, -1, 0, 1, 15, 16, 31, 32, Integer.MAX_VALUE}) {
            Due.is("fresh termType " + h, k.termType(h), -1);
            Due.is("fresh termSize " + h, k.termSize(h), -1);
            Due.is("fresh termNode " + h, k.termNode(h, 0), -1);
            Due.is("fresh hypCount " + h, k.hypCount(h), -1);
            Due.is("fresh thmSize " + h, k.thmSize(h, 0), -1);
            Due.is("fresh thmNode " + h, k.thmNode(h, 0, 0), -1);
            Due.is("fresh thmPartIs " + h, k.thmPartIs(h, 0, h), false);
            Due.refused("fresh mkComb " + h, k, () -> k.mkComb(h, h));
            Due.refused("fresh mkAbs " + h, k, () -> k.mkAbs(h, h));
            for (int kind = 1; kind <= 10; kind++) {
                int rule = kind;
                Due.refused("fresh rule " + kind + " " + h, k, () -> k.rule(rule, h, h, h));
            }
        }
    }

    private static void objectsAreApart() {
        Traced k = new Traced(8, 4);
        Traced other = new Traced(8, 4);
        int p = k.mkVar(0, HolKernel.BOOL);
        k.mkFun(1, 2);
        k.rule(HolKernel.R_ASSUME, p, 0, 0);
        Due.is("typeCount of another object", other.typeCount(), 5);
        Due.is("termType of another object", other.termType(p), -1);
        Due.is("hypCount of another object", other.hypCount(0), -1);
    }
}
