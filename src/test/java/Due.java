import java.util.Arrays;
import java.util.function.IntSupplier;

/** What the tests share: comparing answers with those that are due, and the codes of nodes. */
final class Due {
    static final int COMB = HolKernel.NODE_COMB * 65536;

    private static int wrong = 0;

    private Due() {
    }

    static void is(String call, long got, long want) {
        if (got != want) {
            report(call, String.valueOf(got), String.valueOf(want));
        }
    }

    static void is(String call, boolean got, boolean want) {
        if (got != want) {
            report(call, String.valueOf(got), String.valueOf(want));
        }
    }

    static void same(String what, Object got, Object want) {
        if (!got.equals(want)) {
            report(what, got.toString(), want.toString());
        }
    }

    /** A call that must be refused: it answers -1 and all that can be read stays as it was. */
    static void refused(String call, HolKernel k, IntSupplier made) {
        String before = types(k) + terms(k) + thms(k);
        is(call, made.getAsInt(), -1);
        same("all that can be read after " + call, types(k) + terms(k) + thms(k), before);
    }

    static String types(HolKernel k) {
        StringBuilder all = new StringBuilder("types " + k.typeCount());
        for (int ty = 0; ty < k.typeCount(); ty++) {
            all.append(" ").append(k.typeArg(ty, 0)).append(">").append(k.typeArg(ty, 1));
        }
        return all.toString();
    }

    static String terms(HolKernel k) {
        StringBuilder all = new StringBuilder(" terms");
        for (int t = 0; k.termType(t) != -1; t++) {
            all.append(" ").append(k.termType(t)).append(":");
            for (int pos = 0; pos < k.termSize(t); pos++) {
                all.append(k.termNode(t, pos)).append(",");
            }
        }
        return all.toString();
    }

    static String thms(HolKernel k) {
        StringBuilder all = new StringBuilder(" thms");
        for (int th = 0; k.hypCount(th) != -1; th++) {
            for (int part = 0; part <= k.hypCount(th); part++) {
                all.append(part == 0 ? " : " : " | ");
                for (int pos = 0; pos < k.thmSize(th, part); pos++) {
                    all.append(k.thmNode(th, part, pos)).append(",");
                }
            }
        }
        return all.toString();
    }

    /** All nodes of an arena term, and that the positions around them are refused. */
    static void term(String what, HolKernel k, int t, int... codes) {
        int[] got = new int[Math.max(0, k.termSize(t))];
        for (int pos = 0; pos < got.length; pos++) {
            got[pos] = k.termNode(t, pos);
        }
        same(what, Arrays.toString(got), Arrays.toString(codes));
        is(what + ", node before the first", k.termNode(t, -1), -1);
        is(what + ", node behind the last", k.termNode(t, codes.length), -1);
    }

    /** All nodes of a theorem's part, and that the positions around them are refused. */
    static void part(String what, HolKernel k, int th, int part, int... codes) {
        int[] got = new int[Math.max(0, k.thmSize(th, part))];
        for (int pos = 0; pos < got.length; pos++) {
            got[pos] = k.thmNode(th, part, pos);
        }
        same(what, Arrays.toString(got), Arrays.toString(codes));
        is(what + ", node before the first", k.thmNode(th, part, -1), -1);
        is(what + ", node behind the last", k.thmNode(th, part, codes.length), -1);
    }

    /** Makes new function types until the table holds 'count' types. */
    static void fillTypes(HolKernel k, int count) {
        for (int d = 1; k.typeCount() < count; d++) {
            k.mkFun(d, HolKernel.TY_B);
        }
    }

    /** Fills the arena but for 'room' terms. */
    static void fillTerms(HolKernel k, int capacity, int room) {
        while (k.termType(capacity - room - 1) == -1) {
            k.mkVar(HolKernel.MAX_VAR_ID, HolKernel.BOOL);
        }
    }

    /** f applied n times to x. */
    static int chain(HolKernel k, int f, int x, int n) {
        int t = x;
        for (int i = 0; i < n; i++) {
            t = k.mkComb(f, t);
        }
        return t;
    }

    /** The term s = t. */
    static int equation(HolKernel k, int s, int t) {
        int eq = k.mkEq(k.termType(s));
        return k.mkComb(k.mkComb(eq, s), t);
    }

    static int var(int id, int type) {
        return HolKernel.NODE_VAR * 65536 + id * 256 + type;
    }

    static int eq(int type) {
        return HolKernel.NODE_EQ * 65536 + type;
    }

    static int abs(int type) {
        return HolKernel.NODE_ABS * 65536 + type;
    }

    static int bound(int index, int type) {
        return HolKernel.NODE_BOUND * 65536 + index * 256 + type;
    }

    static void end() {
        if (wrong != 0) {
            System.out.println(wrong + " answers are not as due");
            System.exit(1);
        }
        System.out.println("all answers are as due");
    }

    private static void report(String call, String got, String want) {
        wrong++;
        System.out.println(call + " answered " + got + ", due is " + want);
    }
}
