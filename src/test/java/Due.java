import java.util.Arrays;
import java.util.function.IntSupplier;

/** What the tests share: comparing answers with those that are due, and the codes of nodes. */
final class Due {
    static final int COMB = HolKernel.NODE_COMB * 65536;

    // More than any kernel can hold: where a broken one would never say -1, reading stops here.
    private static final int ENOUGH = 100;

    // Far longer than any test takes: a call that does not end must fail the test, not stop it.
    private static final long PATIENCE_MS = 300_000;

    private static int wrong = 0;

    private Due() {
    }

    /** Ends the test as failed if it lasts too long. */
    static void watch() {
        Thread watch = new Thread(Due::giveUp);
        watch.setDaemon(true);
        watch.start();
    }

    private static void giveUp() {
        try {
            Thread.sleep(PATIENCE_MS);
        } catch (InterruptedException e) {
            return;
        }
        System.out.println("a call does not end");
        System.out.flush();
        Runtime.getRuntime().halt(1);
    }

    static void is(String call, long got, long want) {
        if (got != want) {
            report(call, String.valueOf(got), String.valueOf(want));
        }
    }

    static void is(String call, boolean got, boolean want) {
        if (got != want) {
            report(call, String.valueOf(got), String.valueOf(want));
        }
    }

    static void same(String what, Object got, Object want) {
        if (!got.equals(want)) {
            report(what, got.toString(), want.toString());
        }
    }

    /** A call that must be refused: it answers -1 and changes nothing. */
    static void refused(String call, Traced k, IntSupplier made) {
        keeps(call, k, () -> is(call, made.getAsInt(), -1));
    }

    /** Calls that change nothing: not what can be read, and not the handles that come next. */
    static void keeps(String calls, Traced k, Runnable made) {
        String before = all(k.kernel());
        made.run();
        same("all that can be read after " + calls, all(k.kernel()), before);
        nextHandles(calls, k, before);
    }

    /** On a copy: a new type, term and theorem get the next handles, or none where it is full. */
    private static void nextHandles(String calls, Traced traced, String before) {
        HolKernel k = traced.again();
        String after = "after " + calls + ", on a copy: ";
        same(after + "all that can be read", all(k), before);
        int types = k.typeCount();
        int terms = termCount(k);
        int thms = thmCount(k);
        int boolTerm = boolTerm(k);
        is(after + "the next type", newType(k), types < HolKernel.MAX_TYPES ? types : -1);
        boolean room = terms < traced.termCapacity();
        is(after + "the next term", k.mkVar(7, HolKernel.BOOL), room ? terms : -1);
        if (room) {
            is(after + "the node of the next term", k.termNode(terms, 0), var(7, HolKernel.BOOL));
        }
        if (room || boolTerm != -1) {
            int p = room ? terms : boolTerm;
            int due = thms < traced.thmCapacity() ? thms : -1;
            is(after + "the next theorem", k.rule(HolKernel.R_ASSUME, p, 0, 0), due);
            is(after + "its hypotheses", k.hypCount(thms), due == -1 ? -1 : 1);
        }
    }

    /** Asks for the first function type that is not in the table. */
    private static int newType(HolKernel k) {
        for (int d = 0; d < k.typeCount(); d++) {
            for (int c = 0; c < k.typeCount(); c++) {
                if (funType(k, d, c) == -1) {
                    return k.mkFun(d, c);
                }
            }
        }
        return -1;
    }

    /** The handle of fun(d,c) as reading finds it, or -1. */
    static int funType(HolKernel k, int d, int c) {
        for (int ty = 3; ty < k.typeCount(); ty++) {
            if (k.typeArg(ty, 0) == d && k.typeArg(ty, 1) == c) {
                return ty;
            }
        }
        return -1;
    }

    private static int boolTerm(HolKernel k) {
        for (int t = 0; t < termCount(k); t++) {
            if (k.termType(t) == HolKernel.BOOL) {
                return t;
            }
        }
        return -1;
    }

    static int termCount(HolKernel k) {
        int count = 0;
        while (count < ENOUGH && k.termType(count) != -1) {
            count++;
        }
        return count;
    }

    static int thmCount(HolKernel k) {
        int count = 0;
        while (count < ENOUGH && k.hypCount(count) != -1) {
            count++;
        }
        return count;
    }

    /** All that can be read of a kernel. */
    static String all(HolKernel k) {
        return types(k) + terms(k) + thms(k);
    }

    static String types(Traced k) {
        return types(k.kernel());
    }

    static String terms(Traced k) {
        return terms(k.kernel());
    }

    static String thms(Traced k) {
        return thms(k.kernel());
    }

    private static String types(HolKernel k) {
        StringBuilder all = new StringBuilder("types " + k.typeCount());
        for (int ty = 0; ty < k.typeCount(); ty++) {
            all.append(" ").append(k.typeArg(ty, 0)).append(">").append(k.typeArg(ty, 1));
        }
        return all.toString();
    }

    private static String terms(HolKernel k) {
        StringBuilder all = new StringBuilder(" terms");
        for (int t = 0; t < termCount(k); t++) {
            all.append(" ").append(k.termType(t)).append(":");
            for (int pos = 0; pos < k.termSize(t); pos++) {
                all.append(k.termNode(t, pos)).append(",");
            }
        }
        return all.toString();
    }

    private static String thms(HolKernel k) {
        StringBuilder all = new StringBuilder(" thms");
        for (int th = 0; th < thmCount(k); th++) {
            for (int part = 0; part <= k.hypCount(th); part++) {
                all.append(part == 0 ? " : " : " | ");
                for (int pos = 0; pos < k.thmSize(th, part); pos++) {
                    all.append(k.thmNode(th, part, pos)).append(",");
                }
            }
        }
        return all.toString();
    }

    /** All nodes of an arena term, and that the positions around them are refused. */
    static void term(String what, Traced k, int t, int... codes) {
        int[] got = new int[Math.max(0, k.termSize(t))];
        for (int pos = 0; pos < got.length; pos++) {
            got[pos] = k.termNode(t, pos);
        }
        same(what, Arrays.toString(got), Arrays.toString(codes));
        is(what + ", node before the first", k.termNode(t, -1), -1);
        is(what + ", node behind the last", k.termNode(t, codes.length), -1);
    }

    /** All nodes of a theorem's part, and that the positions around them are refused. */
    static void part(String what, Traced k, int th, int part, int... codes) {
        int[] got = new int[Math.max(0, k.thmSize(th, part))];
        for (int pos = 0; pos < got.length; pos++) {
            got[pos] = k.thmNode(th, part, pos);
        }
        same(what, Arrays.toString(got), Arrays.toString(codes));
        is(what + ", node before the first", k.thmNode(th, part, -1), -1);
        is(what + ", node behind the last", k.thmNode(th, part, codes.length), -1);
    }

    /** Makes new function types until the table holds 'count' types. */
    static void fillTypes(Traced k, int count) {
        for (int d = 1; d < ENOUGH && k.typeCount() < count; d++) {
            k.mkFun(d, HolKernel.TY_B);
        }
    }

    /** Fills the arena but for 'room' terms. */
    static void fillTerms(Traced k, int room) {
        for (int t = termCount(k.kernel()); t < k.termCapacity() - room; t++) {
            k.mkVar(HolKernel.MAX_VAR_ID, HolKernel.BOOL);
        }
    }

    /** f applied n times to x. */
    static int chain(Traced k, int f, int x, int n) {
        int t = x;
        for (int i = 0; i < n; i++) {
            t = k.mkComb(f, t);
        }
        return t;
    }

    /** The term s = t. */
    static int equation(Traced k, int s, int t) {
        int eq = k.mkEq(k.termType(s));
        return k.mkComb(k.mkComb(eq, s), t);
    }

    static int var(int id, int type) {
        return HolKernel.NODE_VAR * 65536 + id * 256 + type;
    }

    static int eq(int type) {
        return HolKernel.NODE_EQ * 65536 + type;
    }

    static int abs(int type) {
        return HolKernel.NODE_ABS * 65536 + type;
    }

    static int bound(int index, int type) {
        return HolKernel.NODE_BOUND * 65536 + index * 256 + type;
    }

    static void end() {
        if (wrong != 0) {
            System.out.println(wrong + " answers are not as due");
            System.exit(1);
        }
        System.out.println("all answers are as due");
    }

    private static void report(String call, String got, String want) {
        wrong++;
        System.out.println(call + " answered " + got + ", due is " + want);
    }
}
