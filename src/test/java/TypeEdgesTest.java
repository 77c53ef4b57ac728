import java.util.HashSet;
import java.util.Set;
import java.util.function.ToIntFunction;

/** The edges that the section 'Types' and promises 2 to 4 name, sentence by sentence. */
public final class TypeEdgesTest {
    private static final int B = HolKernel.TY_B;
    private static final int[] NEITHER = {
        Integer.MIN_VALUE, -65536, -2, -1, 2, 3, 256, 65536, Integer.MAX_VALUE};

    public static void main(String[] args) {
        presetTypes();
        nextHandleIsTypeCount();
        neverTwoEqualTypes();
        atMostMaxTypes();
        everyListAtTheEndOfTheTable();
        internedAfterAllOtherTests();
        mkFunRefusesInvalidHandles();
        mkFunOfAKnownType();
        mkFunOfTheLastType();
        mkFunInAFullTable();
        mkFunLeavesTermsAndTheorems();
        typeArgOfFunctionTypes();
        typeArgOfInvalidTypes();
        typeArgOfBaseTypes();
        typeArgOfOtherWhich();
        typeArgChangesNothing();
        typeCountNeverDecreases();
        Due.end();
    }

    /** "Handles 0, 1, 2 are the base types ... Handle 3 is fun(BOOL,BOOL) and handle 4 is ...". */
    private static void presetTypes() {
        Traced k = new Traced(8, 4);
        Due.is("BOOL", HolKernel.BOOL, 0);
        Due.is("TY_A", HolKernel.TY_A, 1);
        Due.is("TY_B", HolKernel.TY_B, 2);
        for (int base = 0; base < 3; base++) {
            Due.is("typeArg of base " + base, k.typeArg(base, 0), -1);
        }
        Due.is("mkFun(BOOL,BOOL)", k.mkFun(0, 0), 3);
        Due.is("mkFun(BOOL,fun(BOOL,BOOL))", k.mkFun(0, 3), 4);
        Due.is("typeCount()", k.typeCount(), 5);
    }

    /** "Every further handle is ... appended at the end of the table, so the next ...". */
    private static void nextHandleIsTypeCount() {
        Traced k = new Traced(8, 4);
        for (int next = 5; next < 48; next++) {
            Due.is("typeCount() before type " + next, k.typeCount(), next);
            int d = next - 1;
            int c = next % 3;
            Due.is("mkFun(" + d + "," + c + ")", k.mkFun(d, c), next);
            Due.is("its argument", k.typeArg(next, 0), d);
            Due.is("its result", k.typeArg(next, 1), c);
        }
        Due.is("typeCount() of the full table", k.typeCount(), 48);
    }

    /** "The table never holds two equal types". */
    private static void neverTwoEqualTypes() {
        Traced k = new Traced(32, 16);
        int p = k.mkVar(0, 0);
        int x = k.mkVar(0, 1);
        for (int round = 0; round < 3; round++) {
            k.mkFun(0, 0);
            k.mkFun(1, 0);
            k.mkEq(1);
            k.mkEq(0);
            k.mkAbs(x, p);
            k.mkAbs(p, p);
            int same = k.rule(HolKernel.R_REFL, x, 0, 0);
            k.rule(HolKernel.R_ABS, same, p, 0);
            k.rule(HolKernel.R_REFL, p, 0, 0);
            Due.is("typeCount() after round " + round, k.typeCount(), 10);
        }
        allDiffer(k);
    }

    private static void allDiffer(Traced k) {
        Set<String> seen = new HashSet<>();
        for (int ty = 3; ty < k.typeCount(); ty++) {
            String fun = k.typeArg(ty, 0) + ">" + k.typeArg(ty, 1);
            Due.is("type " + ty + ", " + fun + ", is new", seen.add(fun), true);
        }
    }

    /** "It holds at most MAX_TYPES handles": whichever call would add one more. */
    private static void atMostMaxTypes() {
        for (Interning list : lists()) {
            Traced k = new Traced(32, 16);
            list.prepare(k);
            Due.fillTypes(k, 48);
            Due.refused(list.call + " in a full table", k, () -> list.made(k));
            Due.is("typeCount() after " + list.call, k.typeCount(), 48);
            Due.is("type 48 after " + list.call, k.typeArg(48, 0), -1);
            allDiffer(k);
        }
    }

    /** A call that interns fun(B,result) and, if so told, EQTYPES after it or EQTYPES(B) alone. */
    private static final class Interning {
        final String call;
        private final ToIntFunction<Traced> prepared;
        private final ToIntFunction<Traced> called;
        private final int firstResult;
        private final int length;

        Interning(String call, int firstResult, int length, ToIntFunction<Traced> prepared,
                ToIntFunction<Traced> called) {
            this.call = call;
            this.firstResult = firstResult;
            this.length = length;
            this.prepared = prepared;
            this.called = called;
        }

        void prepare(Traced k) {
            prepared.applyAsInt(k);
        }

        int made(Traced k) {
            return called.applyAsInt(k);
        }

        /** The argument of entry i; 'first' is the handle of entry 0. */
        int argument(int i, int first) {
            return length == 3 && i > 0 ? first : B;
        }

        /** The result of entry i; 'before' is the handle of the entry before it. */
        int result(int i, int before) {
            if (i == 0) {
                return firstResult;
            }
            return length == 3 && i == 1 ? HolKernel.BOOL : before;
        }
    }

    /** Every call that interns types, each with terms 0 and 1 and theorems 0 and 1 made for it. */
    private static Interning[] lists() {
        ToIntFunction<Traced> none = k -> 0;
        ToIntFunction<Traced> variable = k -> k.mkVar(0, B);
        ToIntFunction<Traced> variables = k -> k.mkVar(0, B) + k.mkVar(0, 1);
        return new Interning[] {
            new Interning("mkFun", 1, 1, none, k -> k.mkFun(B, 1)),
            new Interning("mkAbs", 1, 1, variables, k -> k.mkAbs(0, 1)),
            new Interning("mkEq", 0, 2, none, k -> k.mkEq(B)),
            new Interning("R_REFL", 0, 2, variable, k -> k.rule(1, 0, 0, 0)),
            new Interning("R_MK_COMB", 0, 2, TypeEdgesTest::functionsAndArguments,
                    k -> k.rule(3, 0, 1, 0)),
            new Interning("R_ABS", 0, 3, TypeEdgesTest::variableAndEquation,
                    k -> k.rule(4, 0, 0, 0)),
            new Interning("R_BETA", 0, 2, TypeEdgesTest::redex, k -> k.rule(5, 2, 0, 0)),
            new Interning("R_BETA_NORM", 0, 2, TypeEdgesTest::redex, k -> k.rule(6, 2, 0, 0)),
            new Interning("R_BETA_NORM without redex", 0, 2, variable, k -> k.rule(6, 0, 0, 0)),
        };
    }

    /** Theorems |- f = f and |- x = x with f of type fun(A,B). */
    private static int functionsAndArguments(Traced k) {
        int f = k.mkVar(0, k.mkFun(1, B));
        int x = k.mkVar(0, 1);
        return k.rule(HolKernel.R_REFL, f, 0, 0) + k.rule(HolKernel.R_REFL, x, 0, 0);
    }

    /** Term 0 is a variable of type B, theorem 0 is |- p = p. */
    private static int variableAndEquation(Traced k) {
        k.mkVar(0, B);
        return k.rule(HolKernel.R_REFL, k.mkVar(0, 0), 0, 0);
    }

    /** Term 2 is (\y. y) y with y of type B. */
    private static int redex(Traced k) {
        int y = k.mkVar(0, B);
        return k.mkComb(k.mkAbs(y, y), y);
    }

    /**
     * "an entry whose type is already in the table ... needs no room. If the entries that need
     * room do not all fit in the table, the whole call is refused. Otherwise ... they are appended
     * in list order": for every such call, every number of known entries and every room.
     */
    private static void everyListAtTheEndOfTheTable() {
        for (Interning list : lists()) {
            for (int known = 0; known <= list.length; known++) {
                for (int room = 0; room <= list.length + 1; room++) {
                    listWith(list, known, room);
                }
            }
        }
    }

    private static void listWith(Interning list, int known, int room) {
        String what = list.call + ", " + known + " of " + list.length + " types known, room for "
                + room;
        Traced k = new Traced(8, 4);
        list.prepare(k);
        int[] handles = new int[list.length];
        for (int i = 0; i < known; i++) {
            int before = i == 0 ? -1 : handles[i - 1];
            handles[i] = k.mkFun(list.argument(i, handles[0]), list.result(i, before));
        }
        int count = 48 - room;
        Due.fillTypes(k, count);
        Due.is(what + ", before", k.typeCount(), count);
        if (list.length - known > room) {
            Due.refused(what, k, () -> list.made(k));
            return;
        }
        Due.is(what, list.made(k) != -1, true);
        Due.is(what + ", typeCount()", k.typeCount(), count + list.length - known);
        for (int i = known; i < list.length; i++) {
            handles[i] = count + i - known;
            int before = i == 0 ? -1 : handles[i - 1];
            Due.is(what + ", argument of entry " + i, k.typeArg(handles[i], 0),
                    list.argument(i, handles[0]));
            Due.is(what + ", result of entry " + i, k.typeArg(handles[i], 1),
                    list.result(i, before));
        }
        allDiffer(k);
        // With all types in the table the same call needs no room, even if the table is full.
        Due.fillTypes(k, 48);
        Due.is(what + ", once more in a full table", list.made(k) != -1, true);
        Due.is(what + ", typeCount() then", k.typeCount(), 48);
    }

    /** "once all other tests of the call have passed": there is room, but another test fails. */
    private static void internedAfterAllOtherTests() {
        for (Interning list : lists()) {
            if (list.call.startsWith("R_")) {
                Traced k = new Traced(32, 4);
                list.prepare(k);
                k.mkVar(5, 0);
                for (int th = Due.thmCount(k.kernel()); th < 4; th++) {
                    k.rule(HolKernel.R_ASSUME, Due.termCount(k.kernel()) - 1, 0, 0);
                }
                Due.refused(list.call + ", no room for a theorem", k, () -> list.made(k));
            } else if (!list.call.equals("mkFun")) {
                Traced k = new Traced(8, 4);
                list.prepare(k);
                Due.fillTerms(k, 0);
                Due.refused(list.call + ", no room for a term", k, () -> list.made(k));
            }
        }
    }

    /** Promise 2: "Refused if d or c is not a valid type handle." */
    private static void mkFunRefusesInvalidHandles() {
        for (int count : new int[] {5, 6, 47, 48}) {
            Traced k = new Traced(8, 4);
            Due.fillTypes(k, count);
            for (int bad : new int[] {Integer.MIN_VALUE, -1, count, count + 1, Integer.MAX_VALUE}) {
                Due.refused("mkFun(" + bad + ",0) of " + count, k, () -> k.mkFun(bad, 0));
                Due.refused("mkFun(0," + bad + ") of " + count, k, () -> k.mkFun(0, bad));
                Due.refused("mkFun(" + bad + "," + bad + ")", k, () -> k.mkFun(bad, bad));
            }
            int due = count < 48 ? count : -1;
            Due.is("mkFun of the last type, " + count, k.mkFun(count - 1, count - 1), due);
        }
    }

    /** "If fun(d,c) is already in the table, it answers that handle and changes nothing". */
    private static void mkFunOfAKnownType() {
        Traced k = new Traced(8, 4);
        k.mkVar(0, 0);
        int ab = k.mkFun(1, 2);
        int ba = k.mkFun(2, 1);
        Due.keeps("mkFun(BOOL,BOOL)", k, () -> Due.is("mkFun(BOOL,BOOL)", k.mkFun(0, 0), 3));
        Due.keeps("mkFun(BOOL,3)", k, () -> Due.is("mkFun(BOOL,3)", k.mkFun(0, 3), 4));
        Due.keeps("mkFun(A,B)", k, () -> Due.is("mkFun(A,B)", k.mkFun(1, 2), ab));
        Due.keeps("mkFun(B,A)", k, () -> Due.is("mkFun(B,A)", k.mkFun(2, 1), ba));
        Due.fillTypes(k, 48);
        for (int ty = 3; ty < 48; ty++) {
            int type = ty;
            int d = k.typeArg(ty, 0);
            int c = k.typeArg(ty, 1);
            Due.keeps("mkFun of type " + ty + ", full table", k,
                    () -> Due.is("mkFun of type " + type, k.mkFun(d, c), type));
        }
    }

    /** "else fun(d,c) is appended, typeCount() grows by one, and the answer is the new handle". */
    private static void mkFunOfTheLastType() {
        Traced k = new Traced(8, 4);
        Due.fillTypes(k, 47);
        Due.is("typeCount() before", k.typeCount(), 47);
        Due.is("mkFun(0,46)", k.mkFun(0, 46), 47);
        Due.is("typeCount() after", k.typeCount(), 48);
        Due.is("typeArg(47,0)", k.typeArg(47, 0), 0);
        Due.is("typeArg(47,1)", k.typeArg(47, 1), 46);
    }

    /** "Otherwise, if the table already holds MAX_TYPES types, it is refused". */
    private static void mkFunInAFullTable() {
        Traced k = new Traced(8, 4);
        k.mkVar(0, 0);
        Due.fillTypes(k, 48);
        for (int c = 0; c < 48; c++) {
            int result = c;
            if (Due.funType(k.kernel(), 47, c) == -1) {
                Due.refused("mkFun(47," + c + "), full table", k, () -> k.mkFun(47, result));
            }
        }
        Due.is("typeCount() after all these", k.typeCount(), 48);
    }

    /** "Terms and theorems never change." */
    private static void mkFunLeavesTermsAndTheorems() {
        Traced k = new Traced(32, 16);
        Sized sized = new Sized(k);
        sized.assumed(32);
        sized.assumedEquation(13, 13);
        String before = Due.terms(k) + Due.thms(k);
        for (int d = 0; d < 50; d++) {
            k.mkFun(d, 1);
            Due.same("terms and theorems after mkFun(" + d + ",1)", Due.terms(k) + Due.thms(k),
                    before);
        }
        Due.is("typeCount() after all these", k.typeCount(), 48);
    }

    /** Promise 3: "For a valid handle ty of a function type ... typeArg(ty, 0) answers d ...". */
    private static void typeArgOfFunctionTypes() {
        Traced k = new Traced(8, 4);
        Due.is("typeArg(3,0)", k.typeArg(3, 0), 0);
        Due.is("typeArg(3,1)", k.typeArg(3, 1), 0);
        Due.is("typeArg(4,0)", k.typeArg(4, 0), 0);
        Due.is("typeArg(4,1)", k.typeArg(4, 1), 3);
        Due.fillTypes(k, 47);
        k.mkFun(46, 45);
        Due.is("typeArg(47,0)", k.typeArg(47, 0), 46);
        Due.is("typeArg(47,1)", k.typeArg(47, 1), 45);
    }

    /** "It answers -1 if ty is invalid". */
    private static void typeArgOfInvalidTypes() {
        for (int count : new int[] {5, 6, 47, 48}) {
            Traced k = new Traced(8, 4);
            Due.fillTypes(k, count);
            for (int which = 0; which <= 1; which++) {
                Due.is("typeArg of the last, " + which, k.typeArg(count - 1, which) >= 0, true);
                for (int bad : new int[] {count, count + 1, 48, 49, 256 + 3, 65536 + 3,
                    Integer.MAX_VALUE, -1, -2, 3 - 48, Integer.MIN_VALUE, Integer.MIN_VALUE + 3}) {
                    Due.is("typeArg(" + bad + "," + which + ") of " + count,
                            k.typeArg(bad, which), -1);
                }
            }
        }
    }

    /** "... if ty is a base type (0, 1 or 2)". */
    private static void typeArgOfBaseTypes() {
        Traced k = new Traced(8, 4);
        Due.fillTypes(k, 48);
        for (int base = 0; base < 3; base++) {
            Due.is("typeArg(" + base + ",0)", k.typeArg(base, 0), -1);
            Due.is("typeArg(" + base + ",1)", k.typeArg(base, 1), -1);
            for (int which : NEITHER) {
                Due.is("typeArg(" + base + "," + which + ")", k.typeArg(base, which), -1);
            }
        }
    }

    /** "... or if which is neither 0 nor 1". */
    private static void typeArgOfOtherWhich() {
        Traced k = new Traced(8, 4);
        Due.fillTypes(k, 48);
        for (int which : NEITHER) {
            for (int ty : new int[] {3, 4, 5, 46, 47}) {
                Due.is("typeArg(" + ty + "," + which + ")", k.typeArg(ty, which), -1);
            }
        }
    }

    /** "It never changes anything." */
    private static void typeArgChangesNothing() {
        Traced k = new Traced(8, 4);
        k.mkVar(0, 0);
        k.mkFun(1, 2);
        Due.keeps("typeArg", k, () -> {
            for (int ty = -1; ty <= 6; ty++) {
                for (int which = -1; which <= 2; which++) {
                    k.typeArg(ty, which);
                }
            }
            k.typeArg(Integer.MAX_VALUE, Integer.MIN_VALUE);
        });
    }

    /** Promise 4: "5 on a fresh object, never more than MAX_TYPES, never decreasing." */
    private static void typeCountNeverDecreases() {
        Traced k = new Traced(32, 16);
        Due.is("typeCount() of a fresh object", k.typeCount(), 5);
        Due.keeps("typeCount()", k, k::typeCount);
        int p = k.mkVar(0, 0);
        int before = 5;
        for (int i = 0; i < 60; i++) {
            int last = k.typeCount() - 1;
            k.mkEq(last - i % 3);
            k.mkFun(last, i % 3);
            k.mkAbs(k.mkVar(i % 16, last), p);
            k.rule(HolKernel.R_REFL, i % 32, 0, 0);
            int now = k.typeCount();
            Due.is("typeCount() in round " + i, now >= before && now <= 48, true);
            before = now;
        }
        Due.is("typeCount() at the end", k.typeCount(), 48);
        Due.keeps("typeCount() of a full table", k, k::typeCount);
    }
}
