import java.util.Arrays;

/** What the tests share: comparing answers with those that are due, and the codes of nodes. */
final class Due {
    static final int COMB = HolKernel.NODE_COMB * 65536;

    private static int wrong = 0;

    private Due() {
    }

    static void is(String call, long got, long want) {
        if (got != want) {
            report(call, String.valueOf(got), String.valueOf(want));
        }
    }

    static void is(String call, boolean got, boolean want) {
        if (got != want) {
            report(call, String.valueOf(got), String.valueOf(want));
        }
    }

    static void same(String what, Object got, Object want) {
        if (!got.equals(want)) {
            report(what, got.toString(), want.toString());
        }
    }

    /** All nodes of an arena term, and that the positions around them are refused. */
    static void term(String what, HolKernel k, int t, int... codes) {
        int[] got = new int[Math.max(0, k.termSize(t))];
        for (int pos = 0; pos < got.length; pos++) {
            got[pos] = k.termNode(t, pos);
        }
        same(what, Arrays.toString(got), Arrays.toString(codes));
        is(what + ", node before the first", k.termNode(t, -1), -1);
        is(what + ", node behind the last", k.termNode(t, codes.length), -1);
    }

    /** All nodes of a theorem's part, and that the positions around them are refused. */
    static void part(String what, HolKernel k, int th, int part, int... codes) {
        int[] got = new int[Math.max(0, k.thmSize(th, part))];
        for (int pos = 0; pos < got.length; pos++) {
            got[pos] = k.thmNode(th, part, pos);
        }
        same(what, Arrays.toString(got), Arrays.toString(codes));
        is(what + ", node before the first", k.thmNode(th, part, -1), -1);
        is(what + ", node behind the last", k.thmNode(th, part, codes.length), -1);
    }

    static int var(int id, int type) {
        return HolKernel.NODE_VAR * 65536 + id * 256 + type;
    }

    static int eq(int type) {
        return HolKernel.NODE_EQ * 65536 + type;
    }

    static int abs(int type) {
        return HolKernel.NODE_ABS * 65536 + type;
    }

    static int bound(int index, int type) {
        return HolKernel.NODE_BOUND * 65536 + index * 256 + type;
    }

    static void end() {
        if (wrong != 0) {
            System.out.println(wrong + " answers are not as due");
            System.exit(1);
        }
        System.out.println("all answers are as due");
    }

    private static void report(String call, String got, String want) {
        wrong++;
        System.out.println(call + " answered " + got + ", due is " + want);
    }
}
