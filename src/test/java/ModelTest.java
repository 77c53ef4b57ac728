/**
 * Promises 1 to 16 together: long runs of calls, in part sensible and in part wild, on the kernel
 * and on the model of the document. Every answer must agree, and after each run so must all that
 * can be read. The runs are the same each time: the numbers come from a fixed rule.
 */
public final class ModelTest {
    private static final int RUNS = 6000;
    private static final int CALLS = 150;
    private static final int[] WILD = {
        -1, Integer.MIN_VALUE, Integer.MAX_VALUE, 48, 32, 16, 33, 17, 5, 256, 65536, -32};

    private static long seed;
    private static HolKernel kernel;
    private static Model model;
    private static int answers;
    private static final int[] made = new int[11];
    private static final int[] refused = new int[11];

    public static void main(String[] args) {
        Due.watch();
        Truth truth = new Truth();
        for (int run = 0; run < RUNS; run++) {
            seed = run * 7919L + 1;
            play(run);
            readAll(run);
            truth.check(run, model);
            if (run % 20 == 0) {
                Audit.check("run " + run, kernel);
            }
        }
        for (int kind = 1; kind <= 10; kind++) {
            Due.is("rule " + kind + " was made often enough", made[kind] >= 300, true);
            Due.is("rule " + kind + " was refused often enough", refused[kind] >= 300, true);
        }
        Due.is("theorems were tried often enough", truth.tried() >= 5000, true);
        Due.end();
    }

    private static int pick(int below) {
        seed = seed * 6364136223846793005L + 1442695040888963407L;
        return (int) ((seed >>> 33) % below);
    }

    private static void play(int run) {
        int maxTerms = run % 3 == 0 ? pick(60) - 10 : 32;
        int maxThms = run % 3 == 0 ? pick(40) - 10 : 16;
        kernel = new HolKernel(maxTerms, maxThms);
        model = new Model(maxTerms, maxThms);
        if (run % 5 == 1) {
            crowdTypes(36 + pick(12));
        }
        int bias = pick(3);
        for (int i = 0; i < CALLS; i++) {
            int what = pick(20);
            if (what < 9) {
                makeTerm(run, bias);
            } else if (what < 17) {
                makeThm(run);
            } else {
                readSome(run);
            }
        }
    }

    /** Fills the type table up to the count, so that the calls after it meet its end. */
    private static void crowdTypes(int count) {
        for (int i = 0; i < 200 && model.typeCount() < count; i++) {
            int d = pick(model.typeCount());
            int c = pick(3);
            answer("mkFun", kernel.mkFun(d, c), model.mkFun(d, c), 0);
        }
    }

    private static void makeTerm(int run, int bias) {
        int what = pick(10);
        if (what == 0) {
            int d = type();
            int c = type();
            answer("mkFun(" + d + "," + c + ")", kernel.mkFun(d, c), model.mkFun(d, c), run);
        } else if (what <= 3) {
            int id = pick(20) == 0 ? WILD[pick(WILD.length)] : pick(2 + bias);
            int ty = type();
            answer("mkVar(" + id + "," + ty + ")", kernel.mkVar(id, ty), model.mkVar(id, ty), run);
        } else if (what == 4 && bias != 2) {
            int a = type();
            answer("mkEq(" + a + ")", kernel.mkEq(a), model.mkEq(a), run);
        } else if (what <= 7) {
            int f = term();
            int x = pick(8) == 0 ? term() : argumentFor(f);
            answer("mkComb(" + f + "," + x + ")", kernel.mkComb(f, x), model.mkComb(f, x), run);
        } else {
            int v = pick(8) == 0 ? term() : variable();
            int s = term();
            answer("mkAbs(" + v + "," + s + ")", kernel.mkAbs(v, s), model.mkAbs(v, s), run);
        }
    }

    private static void makeThm(int run) {
        int kind = pick(30) == 0 ? WILD[pick(WILD.length)] : 1 + pick(10);
        int a = 0;
        int b = 0;
        for (int tries = 0; tries < 8; tries++) {
            a = kind == 1 || kind >= 5 && kind <= 7 ? term() : thm();
            b = kind == 4 || kind == 10 ? variable() : thm();
            boolean likely = kind != 7 || model.termType(a) == 0;
            likely &= kind != 5 && kind != 6 || redexIn(a);
            likely &= kind != 8 || fitsEqMp(a, b);
            if (likely || pick(10) == 0) {
                break;
            }
        }
        int c = kind == 10 && pick(6) != 0 ? ofType(model.termType(b)) : term();
        int got = kernel.rule(kind, a, b, c);
        int want = model.rule(kind, a, b, c);
        if (kind >= 1 && kind <= 10) {
            int[] tally = want >= 0 ? made : refused;
            tally[kind]++;
        }
        answer("rule(" + kind + "," + a + "," + b + "," + c + ")", got, want, run);
    }

    private static boolean redexIn(int t) {
        return t >= 0 && t < model.terms.size()
                && Model.step(model.terms.get(t)) != model.terms.get(t);
    }

    private static boolean fitsEqMp(int a, int b) {
        if (model.hypCount(a) < 0 || model.hypCount(b) < 0) {
            return false;
        }
        Model.Term p = model.thms.get(a).conclusion();
        return p.kind() == 3 && p.l().kind() == 3
                && p.l().r().equals(model.thms.get(b).conclusion());
    }

    private static void readSome(int run) {
        int t = term();
        int th = thm();
        int part = pick(6) - 1;
        int pos = pick(10) == 0 ? WILD[pick(WILD.length)] : pick(34) - 1;
        int ty = type();
        int which = pick(4) - 1;
        answer("typeArg", kernel.typeArg(ty, which), model.typeArg(ty, which), run);
        answer("termType", kernel.termType(t), model.termType(t), run);
        answer("termSize", kernel.termSize(t), model.termSize(t), run);
        answer("termNode", kernel.termNode(t, pos), model.termNode(t, pos), run);
        answer("hypCount", kernel.hypCount(th), model.hypCount(th), run);
        answer("thmSize", kernel.thmSize(th, part), model.thmSize(th, part), run);
        answer("thmNode", kernel.thmNode(th, part, pos), model.thmNode(th, part, pos), run);
        answer("thmPartIs", kernel.thmPartIs(th, part, t) ? 1 : 0,
                model.thmPartIs(th, part, t) ? 1 : 0, run);
    }

    private static void readAll(int run) {
        for (int ty = -1; ty <= 48; ty++) {
            answer("typeArg 0", kernel.typeArg(ty, 0), model.typeArg(ty, 0), run);
            answer("typeArg 1", kernel.typeArg(ty, 1), model.typeArg(ty, 1), run);
        }
        for (int t = -1; t <= 32; t++) {
            answer("termType", kernel.termType(t), model.termType(t), run);
            for (int pos = -1; pos <= model.termSize(t); pos++) {
                answer("termNode", kernel.termNode(t, pos), model.termNode(t, pos), run);
            }
        }
        for (int th = -1; th <= 16; th++) {
            answer("hypCount", kernel.hypCount(th), model.hypCount(th), run);
            for (int part = -1; part <= 4; part++) {
                answer("thmSize", kernel.thmSize(th, part), model.thmSize(th, part), run);
                for (int pos = -1; pos <= model.thmSize(th, part); pos++) {
                    answer("thmNode", kernel.thmNode(th, part, pos),
                            model.thmNode(th, part, pos), run);
                }
            }
        }
    }

    /** Only the first answers that differ are told: after one, the rest means little. */
    private static void answer(String call, int got, int want, int run) {
        if ((got != want || kernel.typeCount() != model.typeCount()) && answers < 20) {
            answers++;
            Due.is("run " + run + ": " + call, got, want);
            Due.is("run " + run + ": typeCount() after " + call, kernel.typeCount(),
                    model.typeCount());
        }
    }

    private static int type() {
        return pick(25) == 0 ? WILD[pick(WILD.length)]
                : pick(2) == 0 ? pick(4) : pick(model.typeCount());
    }

    private static int term() {
        return pick(40) == 0 || model.terms.isEmpty() ? WILD[pick(WILD.length)]
                : pick(model.terms.size());
    }

    private static int thm() {
        return pick(40) == 0 || model.thms.isEmpty() ? WILD[pick(WILD.length)]
                : pick(model.thms.size());
    }

    private static int variable() {
        int t = term();
        for (int tries = 0; tries < 20 && (model.termNode(t, 0) >> 16) != 1; tries++) {
            t = term();
        }
        return t;
    }

    private static int argumentFor(int f) {
        return ofType(model.typeArg(model.termType(f), 0));
    }

    private static int ofType(int ty) {
        int t = term();
        for (int tries = 0; tries < 20 && model.termType(t) != ty; tries++) {
            t = term();
        }
        return t;
    }
}
