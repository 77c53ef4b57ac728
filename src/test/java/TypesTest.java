/** Promises 2 to 4: mkFun, typeArg and typeCount. */
public final class TypesTest {
    private static final int[] NEVER_TYPES = {-1, Integer.MIN_VALUE, Integer.MAX_VALUE, 48, 256};

    public static void main(String[] args) {
        ordinaryTypes();
        wrongHandles();
        fullTable();
        termsAndThmsStay();
        Due.end();
    }

    private static void ordinaryTypes() {
        Traced k = new Traced(8, 4);
        Due.is("mkFun(BOOL,BOOL)", k.mkFun(0, 0), 3);
        Due.is("mkFun(BOOL,3)", k.mkFun(0, 3), 4);
        Due.is("typeCount() after known types", k.typeCount(), 5);
        Due.is("mkFun(A,B)", k.mkFun(1, 2), 5);
        Due.is("typeCount() after a new type", k.typeCount(), 6);
        Due.is("mkFun(B,A)", k.mkFun(2, 1), 6);
        Due.is("mkFun(A,B) again", k.mkFun(1, 2), 5);
        Due.is("mkFun(5,5)", k.mkFun(5, 5), 7);
        Due.is("mkFun(7,7)", k.mkFun(7, 7), 8);
        Due.is("mkFun(3,0)", k.mkFun(3, 0), 9);
        Due.is("mkFun(A,A)", k.mkFun(1, 1), 10);
        Due.same("types", Due.types(k),
                "types 11 -1>-1 -1>-1 -1>-1 0>0 0>3 1>2 2>1 5>5 7>7 3>0 1>1");
    }

    private static void wrongHandles() {
        Traced k = new Traced(8, 4);
        for (int bad : NEVER_TYPES) {
            Due.refused("mkFun(" + bad + ",0)", k, () -> k.mkFun(bad, 0));
            Due.refused("mkFun(0," + bad + ")", k, () -> k.mkFun(0, bad));
            Due.is("typeArg(" + bad + ",0)", k.typeArg(bad, 0), -1);
            Due.is("typeArg(" + bad + ",1)", k.typeArg(bad, 1), -1);
            Due.is("typeArg(3," + bad + ")", k.typeArg(3, bad), -1);
        }
        Due.refused("mkFun(5,0), one too far", k, () -> k.mkFun(5, 0));
        Due.refused("mkFun(0,5), one too far", k, () -> k.mkFun(0, 5));
        Due.is("typeArg(5,0), one too far", k.typeArg(5, 0), -1);
        Due.is("typeArg(3,2)", k.typeArg(3, 2), -1);
        for (int base = 0; base < 3; base++) {
            Due.is("typeArg of a base type, 0", k.typeArg(base, 0), -1);
            Due.is("typeArg of a base type, 1", k.typeArg(base, 1), -1);
        }
        k.mkFun(1, 2);
        Due.is("typeArg(5,0)", k.typeArg(5, 0), 1);
        Due.is("typeArg(5,1)", k.typeArg(5, 1), 2);
    }

    private static void fullTable() {
        Traced k = new Traced(8, 4);
        Due.fillTypes(k, 47);
        Due.is("typeCount() before the last type", k.typeCount(), 47);
        Due.is("the last type", k.mkFun(46, 46), 47);
        Due.is("typeCount() of the full table", k.typeCount(), 48);
        Due.is("typeArg of the last type", k.typeArg(47, 0), 46);
        Due.refused("mkFun(47,47) in a full table", k, () -> k.mkFun(47, 47));
        Due.refused("mkFun(0,47) in a full table", k, () -> k.mkFun(0, 47));
        Due.is("a known type in a full table", k.mkFun(46, 46), 47);
        Due.is("fun(BOOL,BOOL) in a full table", k.mkFun(0, 0), 3);
        Due.is("typeCount() at the end", k.typeCount(), 48);
    }

    private static void termsAndThmsStay() {
        Traced k = new Traced(8, 4);
        int p = k.mkVar(0, HolKernel.BOOL);
        k.rule(HolKernel.R_ASSUME, p, 0, 0);
        String before = Due.terms(k) + Due.thms(k);
        Due.fillTypes(k, 48);
        Due.same("terms and theorems after mkFun", Due.terms(k) + Due.thms(k), before);
    }
}
