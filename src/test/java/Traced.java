import java.util.ArrayList;
import java.util.List;
import java.util.function.ToIntFunction;

/**
 * A kernel that keeps the calls made on it, so that the same state can be made a second time and
 * tried out without harm to the first.
 */
final class Traced {
    static {
        Due.watch();
    }

    private final int maxTerms;
    private final int maxThms;
    private final HolKernel kernel;
    private final List<ToIntFunction<HolKernel>> calls = new ArrayList<>();

    Traced(int maxTerms, int maxThms) {
        this.maxTerms = maxTerms;
        this.maxThms = maxThms;
        kernel = new HolKernel(maxTerms, maxThms);
    }

    /** Another object on which all the same calls were made, refused ones and readings too. */
    HolKernel again() {
        HolKernel copy = new HolKernel(maxTerms, maxThms);
        for (ToIntFunction<HolKernel> call : calls) {
            call.applyAsInt(copy);
        }
        return copy;
    }

    /** The object itself, for readings that are not to be kept. */
    HolKernel kernel() {
        return kernel;
    }

    int termCapacity() {
        return Math.max(8, Math.min(32, maxTerms));
    }

    int thmCapacity() {
        return Math.max(4, Math.min(16, maxThms));
    }

    int mkFun(int d, int c) {
        return made(k -> k.mkFun(d, c));
    }

    int typeArg(int ty, int which) {
        return made(k -> k.typeArg(ty, which));
    }

    int typeCount() {
        return made(HolKernel::typeCount);
    }

    int mkVar(int id, int ty) {
        return made(k -> k.mkVar(id, ty));
    }

    int mkEq(int a) {
        return made(k -> k.mkEq(a));
    }

    int mkComb(int f, int x) {
        return made(k -> k.mkComb(f, x));
    }

    int mkAbs(int v, int s) {
        return made(k -> k.mkAbs(v, s));
    }

    int termType(int t) {
        return made(k -> k.termType(t));
    }

    int termSize(int t) {
        return made(k -> k.termSize(t));
    }

    int termNode(int t, int pos) {
        return made(k -> k.termNode(t, pos));
    }

    int rule(int kind, int a, int b, int c) {
        return made(k -> k.rule(kind, a, b, c));
    }

    int hypCount(int th) {
        return made(k -> k.hypCount(th));
    }

    int thmSize(int th, int part) {
        return made(k -> k.thmSize(th, part));
    }

    int thmNode(int th, int part, int pos) {
        return made(k -> k.thmNode(th, part, pos));
    }

    boolean thmPartIs(int th, int part, int t) {
        return made(k -> k.thmPartIs(th, part, t) ? 1 : 0) == 1;
    }

    private int made(ToIntFunction<HolKernel> call) {
        calls.add(call);
        return call.applyAsInt(kernel);
    }
}
