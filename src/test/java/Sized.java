import java.util.Arrays;

/** Terms of type BOOL with a given number of nodes, which need none but the preset types. */
final class Sized {
    final int p;
    final int f;
    final int id;
    final int eq;

    private final Traced k;
    private final int[] made = new int[HolKernel.MAX_SIZE + 1];

    Sized(Traced k) {
        this.k = k;
        Arrays.fill(made, -1);
        p = k.mkVar(0, HolKernel.BOOL);
        f = k.mkVar(0, 3);
        id = k.mkAbs(p, p);
        eq = k.mkEq(HolKernel.BOOL);
        made[1] = p;
    }

    /** The one term of that size: 1 or 3 to 32. An even size takes a redex, an odd one none. */
    int of(int size) {
        if (made[size] == -1) {
            made[size] = make(size);
            Due.is("size of the term of size " + size, k.termSize(made[size]), size);
        }
        return made[size];
    }

    private int make(int size) {
        if (size == 5 || size == 13 || size == 29) {
            int half = of((size - 3) / 2);
            return k.mkComb(k.mkComb(eq, half), half);
        }
        return size % 2 == 0 ? k.mkComb(id, of(size - 3)) : k.mkComb(f, of(size - 2));
    }

    /** The theorem t |- t of the term of that size. */
    int assumed(int size) {
        return k.rule(HolKernel.R_ASSUME, of(size), 0, 0);
    }

    /** The theorem s = t |- s = t of the terms of these sizes. */
    int assumedEquation(int left, int right) {
        int equation = k.mkComb(k.mkComb(eq, of(left)), of(right));
        return k.rule(HolKernel.R_ASSUME, equation, 0, 0);
    }
}
