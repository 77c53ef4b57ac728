/** Promises 9 to 11: termType, termSize and termNode. */
public final class TermReadingTest {
    private static final int[] WRONG = {-1, Integer.MIN_VALUE, Integer.MAX_VALUE, 32, 33, 96};

    public static void main(String[] args) {
        Traced k = new Traced(32, 16);
        int a = k.mkVar(15, 1);
        int f = k.mkVar(1, k.mkFun(1, 2));
        int fa = k.mkComb(f, a);
        int eq = k.mkEq(2);
        int equation = k.mkComb(k.mkComb(eq, fa), fa);
        int abs = k.mkAbs(a, equation);
        types(k, a, f, fa, eq, equation, abs);
        Due.is("size of a variable", k.termSize(a), 1);
        Due.is("size of EQ", k.termSize(eq), 1);
        Due.is("size of f a", k.termSize(fa), 3);
        Due.is("size of f a = f a", k.termSize(equation), 9);
        Due.is("size of \\a. f a = f a", k.termSize(abs), 10);
        Due.term("\\a. f a = f a", k, abs, 262145, 196608, 196608, 131074, 196608, 65797, 327681,
                196608, 65797, 327681);
        wrongArguments(k, abs);
        nothingChanges(k);
        Due.end();
    }

    private static void types(Traced k, int a, int f, int fa, int eq, int equation, int abs) {
        Due.is("type of a", k.termType(a), 1);
        Due.is("type of f", k.termType(f), 5);
        Due.is("type of f a", k.termType(fa), 2);
        Due.is("type of EQ(B)", k.termType(eq), 7);
        Due.is("type of f a = f a", k.termType(equation), 0);
        Due.is("type of \\a. f a = f a", k.termType(abs), 8);
        Due.is("typeArg(8,0)", k.typeArg(8, 0), 1);
        Due.is("typeArg(8,1)", k.typeArg(8, 1), 0);
    }

    private static void wrongArguments(Traced k, int last) {
        for (int bad : WRONG) {
            Due.is("termType(" + bad + ")", k.termType(bad), -1);
            Due.is("termSize(" + bad + ")", k.termSize(bad), -1);
            Due.is("termNode(" + bad + ",0)", k.termNode(bad, 0), -1);
            Due.is("termNode(last," + bad + ")", k.termNode(last, bad), -1);
        }
        Due.is("termType, one too far", k.termType(last + 1), -1);
        Due.is("termSize, one too far", k.termSize(last + 1), -1);
        Due.is("termNode, one too far", k.termNode(last + 1, 0), -1);
    }

    private static void nothingChanges(Traced k) {
        String before = Due.types(k) + Due.terms(k) + Due.thms(k);
        Due.same("all after reading", Due.types(k) + Due.terms(k) + Due.thms(k), before);
        Due.is("the next handle after reading", k.mkVar(0, 0), 7);
        Due.is("the next type after reading", k.mkFun(2, 2), 9);
    }
}
