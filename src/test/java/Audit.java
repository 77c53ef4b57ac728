import java.util.ArrayList;
import java.util.List;
import java.util.function.IntUnaryOperator;

/**
 * Reads every term and every part of every theorem of a kernel through its public face, and sees
 * that it is as the document says of all terms: closed, well typed, of at most MAX_SIZE nodes, and
 * with the types of all its subterms in the type table; and that each theorem's hypotheses ascend.
 */
final class Audit {
    private final HolKernel k;
    private final String what;
    private IntUnaryOperator nodes;
    private int size;
    private int pos;

    private Audit(String what, HolKernel k) {
        this.what = what;
        this.k = k;
    }

    static void check(String what, HolKernel k) {
        Audit audit = new Audit(what, k);
        for (int t = 0; t < Due.termCount(k); t++) {
            int term = t;
            int type = audit.read(k.termSize(t), at -> k.termNode(term, at));
            Due.is(what + ", type of term " + t, k.termType(t), type);
        }
        for (int th = 0; th < Due.thmCount(k); th++) {
            audit.checkThm(th);
        }
    }

    private void checkThm(int th) {
        String name = what + ", theorem " + th;
        Due.is(name + ", hypotheses", k.hypCount(th) >= 0 && k.hypCount(th) <= 3, true);
        for (int part = 0; part <= k.hypCount(th); part++) {
            int number = part;
            int type = read(k.thmSize(th, part), at -> k.thmNode(th, number, at));
            Due.is(name + ", type of part " + part, type, HolKernel.BOOL);
            if (part >= 2) {
                Due.is(name + ", part " + (part - 1) + " before " + part, ascend(th, part), true);
            }
        }
    }

    private boolean ascend(int th, int part) {
        for (int at = 0; at < k.thmSize(th, part); at++) {
            int before = k.thmNode(th, part - 1, at);
            int here = k.thmNode(th, part, at);
            if (before != here) {
                return before < here;
            }
        }
        return false;
    }

    /** The type of a term as its nodes tell it, or -1 if something is wrong with them. */
    private int read(int ofSize, IntUnaryOperator ofNodes) {
        size = ofSize;
        nodes = ofNodes;
        pos = 0;
        Due.is(what + ", a size of 1 to 32", size >= 1 && size <= 32, true);
        int type = type(new ArrayList<>());
        Due.is(what + ", a term ends with its last node", pos, size);
        return type;
    }

    private int type(List<Integer> binders) {
        if (pos >= size) {
            return -1;
        }
        int code = nodes.applyAsInt(pos);
        pos++;
        int p = code / 256 % 256;
        int q = code % 256;
        switch (code / 65536) {
            case HolKernel.NODE_VAR:
                return p <= 15 ? q : -1;
            case HolKernel.NODE_EQ:
                return p == 0 ? fun(q, fun(q, HolKernel.BOOL)) : -1;
            case HolKernel.NODE_COMB:
                int f = type(binders);
                int x = type(binders);
                return p == 0 && q == 0 && k.typeArg(f, 0) == x ? k.typeArg(f, 1) : -1;
            case HolKernel.NODE_ABS:
                List<Integer> inner = new ArrayList<>(binders);
                inner.add(0, q);
                return p == 0 ? fun(q, type(inner)) : -1;
            case HolKernel.NODE_BOUND:
                return p < binders.size() && binders.get(p) == q ? q : -1;
            default:
                return -1;
        }
    }

    private int fun(int d, int c) {
        int found = d == -1 || c == -1 ? -1 : Due.funType(k, d, c);
        Due.is(what + ", fun(" + d + "," + c + ") is in the table", found != -1, true);
        return found;
    }
}
