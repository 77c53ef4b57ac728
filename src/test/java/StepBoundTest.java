import java.lang.reflect.Method;
import java.nio.file.Files;
import java.nio.file.Path;

/**
 * R_BETA_NORM: "Refused ... if t(MAX_STEPS) still has a redex." No term is known that contracts
 * 64 times within MAX_SIZE, so the sentence is tried on the same source with a smaller MAX_STEPS:
 * a term that contracts just so often is taken, and one that contracts once more is refused.
 */
public final class StepBoundTest {
    private static final String SOURCE = "src/main/java/HolKernel.java";
    private static final String LINE = "public static final int MAX_STEPS = 64;";

    public static void main(String[] args) throws Exception {
        longestKnown();
        for (int steps : new int[] {0, 1, 2, 9, 10, 11, 19, 20}) {
            trySteps(steps);
        }
        Due.end();
    }

    /** With MAX_STEPS as it is, the longest contraction that a search has found is taken. */
    private static void longestKnown() {
        Traced k = new Traced(32, 16);
        int t = twentySteps(k::mkVar, k::mkComb, k::mkAbs, k.mkFun(3, 3));
        int made = k.rule(HolKernel.R_BETA_NORM, t, 0, 0);
        Due.is("R_BETA_NORM of twenty steps", made, 0);
        Due.is("its size", k.thmSize(made, 0), 31);
        Due.is("its last node", k.thmNode(made, 0, 30), Due.var(0, 0));
    }

    private interface Two {
        int of(int a, int b);
    }

    /** (\a. a (a ((\b. b (b a)) (\f x. f (f x)) p))) ((\f. f) (\x. x)), which ends as p. */
    private static int twentySteps(Two var, Two comb, Two abs, int funOfFun) {
        int p = var.of(0, 0);
        int x = var.of(1, 0);
        int f = var.of(2, 3);
        int a = var.of(3, 3);
        int b = var.of(4, funOfFun);
        int two = abs.of(f, abs.of(x, comb.of(f, comb.of(f, x))));
        int twice = abs.of(b, comb.of(b, comb.of(b, a)));
        int inner = comb.of(comb.of(twice, two), p);
        int outer = abs.of(a, comb.of(a, comb.of(a, inner)));
        return comb.of(outer, comb.of(abs.of(f, f), abs.of(x, x)));
    }

    /** Builds the class with another MAX_STEPS and tries terms of 0 to 10 and of 20 steps. */
    private static void trySteps(int maxSteps) throws Exception {
        try (Compiled kernel = compiled(maxSteps)) {
            Class<?> type = kernel.type();
            for (int steps = 0; steps <= 8; steps++) {
                Kernel k = new Kernel(type);
                int due = steps <= maxSteps ? 0 : -1;
                Due.is(steps + " steps with MAX_STEPS " + maxSteps,
                        k.normalOf(identities(k, steps)), due);
            }
            Kernel ten = new Kernel(type);
            Due.is("10 steps with MAX_STEPS " + maxSteps, ten.normalOf(tenSteps(ten)),
                    maxSteps >= 10 ? 0 : -1);
            Kernel twenty = new Kernel(type);
            int funOfFun = twenty.call("mkFun", 3, 3);
            int t = twentySteps(twenty::mkVar, twenty::mkComb, twenty::mkAbs, funOfFun);
            Due.is("20 steps with MAX_STEPS " + maxSteps, twenty.normalOf(t),
                    maxSteps >= 20 ? 0 : -1);
        }
    }

    private static Compiled compiled(int maxSteps) throws Exception {
        String source = Files.readString(Path.of(SOURCE));
        Due.is("the source says '" + LINE + "'", source.contains(LINE), true);
        String changed = source.replace(LINE, LINE.replace("64", "" + maxSteps));
        // Not below this class's loader, which has the class with its own MAX_STEPS.
        return new Compiled("HolKernel", changed, ClassLoader.getPlatformClassLoader());
    }

    /** I (I (... y)) with n times I. */
    private static int identities(Kernel k, int n) {
        int y = k.mkVar(1, 0);
        int id = k.mkAbs(y, y);
        int t = y;
        for (int i = 0; i < n; i++) {
            t = k.mkComb(id, t);
        }
        return t;
    }

    /** 2 (2 I) y. */
    private static int tenSteps(Kernel k) {
        int x = k.mkVar(0, 0);
        int f = k.mkVar(0, 3);
        int two = k.mkAbs(f, k.mkAbs(x, k.mkComb(f, k.mkComb(f, x))));
        int id = k.mkAbs(x, x);
        return k.mkComb(k.mkComb(two, k.mkComb(two, id)), x);
    }

    /** An object of a class that was compiled here, called by the names of its methods. */
    private static final class Kernel {
        private final Object object;

        Kernel(Class<?> type) throws Exception {
            object = type.getConstructor(int.class, int.class).newInstance(32, 16);
        }

        int call(String name, int... args) {
            Class<?>[] types = new Class<?>[args.length];
            Object[] values = new Object[args.length];
            for (int i = 0; i < args.length; i++) {
                types[i] = int.class;
                values[i] = args[i];
            }
            try {
                Method method = object.getClass().getMethod(name, types);
                return (Integer) method.invoke(object, values);
            } catch (ReflectiveOperationException e) {
                throw new IllegalStateException(e);
            }
        }

        int mkVar(int id, int ty) {
            return call("mkVar", id, ty);
        }

        int mkComb(int f, int x) {
            return call("mkComb", f, x);
        }

        int mkAbs(int v, int s) {
            return call("mkAbs", v, s);
        }

        int normalOf(int t) {
            return call("rule", HolKernel.R_BETA_NORM, t, 0, 0);
        }
    }
}
