/**
 * The edges that promise 12 names for all rules together, sentence by sentence: handles, kinds,
 * the limits MAX_HYPS and MAX_SIZE, room for types and theorems, and what a rule leaves alone.
 */
public final class RuleEdgesTest {
    private static final int REFL = HolKernel.R_REFL;
    private static final int TRANS = HolKernel.R_TRANS;
    private static final int MK_COMB = HolKernel.R_MK_COMB;
    private static final int ABS = HolKernel.R_ABS;
    private static final int BETA = HolKernel.R_BETA;
    private static final int NORM = HolKernel.R_BETA_NORM;
    private static final int ASSUME = HolKernel.R_ASSUME;
    private static final int EQ_MP = HolKernel.R_EQ_MP;
    private static final int DEDUCT = HolKernel.R_DEDUCT_ANTISYM;
    private static final int INST = HolKernel.R_INST;

    public static void main(String[] args) {
        answersTheNumberOfTheorems();
        refusedRulesTakeNoHandle();
        unknownKinds();
        handlesOfTheOtherKind();
        mostHypotheses();
        keptHypotheses();
        reflSizes();
        transSizes();
        mkCombSizes();
        absSizes();
        betaSizes();
        assumeAndEqMpSizes();
        deductSizes();
        instSizes();
        rulesThatNeedNoRoomForTypes();
        typesOnlyWithSuccess();
        fullTheoremTable();
        arenaTermsAndOldTheoremsStay();
        fullArenaDoesNotMatter();
        oneTheoremTwice();
        Due.end();
    }

    /** "answers the new theorem's handle, which equals the number of theorems before the call". */
    private static void answersTheNumberOfTheorems() {
        Traced k = new Traced(32, 16);
        int p = k.mkVar(0, 0);
        int q = k.mkVar(1, 0);
        int f = k.mkVar(0, 3);
        int redex = k.mkComb(k.mkAbs(p, p), q);
        int[][] calls = {{REFL, p, 0, 0}, {TRANS, 0, 0, 0}, {REFL, f, 0, 0}, {MK_COMB, 2, 0, 0},
            {ABS, 0, q, 0}, {BETA, redex, 0, 0}, {NORM, redex, 0, 0}, {ASSUME, p, 0, 0},
            {EQ_MP, 0, 7, 0}, {DEDUCT, 7, 8, 0}, {INST, 7, p, q}, {INST, 0, q, p},
            {ASSUME, q, 0, 0}, {REFL, q, 0, 0}, {TRANS, 13, 13, 0}, {DEDUCT, 14, 14, 0}};
        for (int i = 0; i < 16; i++) {
            int[] c = calls[i];
            Due.is("theorem " + i + " before", k.hypCount(i), -1);
            Due.is("rule " + c[0], k.rule(c[0], c[1], c[2], c[3]), i);
            Due.is("theorem " + i + " after", k.hypCount(i) >= 0, true);
            Due.is("theorem " + (i + 1) + " after", k.hypCount(i + 1), -1);
        }
    }

    /** "Theorem handles are given out ... in the order of successful rule() calls." */
    private static void refusedRulesTakeNoHandle() {
        Traced k = new Traced(8, 4);
        int p = k.mkVar(0, 0);
        int f = k.mkVar(0, 3);
        for (int kind = 0; kind <= 11; kind++) {
            Due.is("rule " + kind + " of -1", k.rule(kind, -1, -1, -1), -1);
        }
        Due.is("the first theorem", k.rule(ASSUME, p, 0, 0), 0);
        Due.is("R_ASSUME of f", k.rule(ASSUME, f, 0, 0), -1);
        Due.is("R_TRANS of p", k.rule(TRANS, 0, 0, 0), -1);
        Due.is("the second theorem", k.rule(REFL, f, 0, 0), 1);
        Due.part("the first theorem", k, 0, 0, Due.var(0, 0));
        Due.part("the second theorem", k, 1, 0, Due.COMB, Due.COMB, Due.eq(3), Due.var(0, 3),
                Due.var(0, 3));
    }

    /** "Refused if kind is unknown". */
    private static void unknownKinds() {
        Traced k = new Traced(8, 4);
        k.mkVar(0, 0);
        k.rule(ASSUME, 0, 0, 0);
        for (int kind : new int[] {0, 11, -1, 12, -7, 16, 32, 64, 256 + 7, 65536 + 7,
            Integer.MAX_VALUE, Integer.MIN_VALUE, Integer.MIN_VALUE + 7}) {
            Due.refused("rule(" + kind + ",0,0,0)", k, () -> k.rule(kind, 0, 0, 0));
        }
        Due.is("the least kind", k.rule(1, 0, 0, 0), 1);
        Due.is("the greatest kind", k.rule(10, 0, 0, 0), 2);
    }

    /** "if an argument is not a valid handle of the kind named": valid as the other kind only. */
    private static void handlesOfTheOtherKind() {
        Traced few = new Traced(8, 16);
        few.mkVar(0, 0);
        for (int th = 0; th < 6; th++) {
            few.rule(th == 0 ? ASSUME : REFL, 0, 0, 0);
        }
        for (int kind : new int[] {REFL, BETA, NORM, ASSUME}) {
            Due.refused("rule " + kind + " of theorem 3", few, () -> few.rule(kind, 3, 0, 0));
        }
        Due.refused("R_ABS with theorem 3 as b", few, () -> few.rule(ABS, 1, 3, 0));
        Due.refused("R_INST with theorem 3 as b", few, () -> few.rule(INST, 1, 3, 0));
        Due.refused("R_INST with theorem 3 as c", few, () -> few.rule(INST, 1, 0, 3));

        Traced many = new Traced(8, 16);
        for (int t = 0; t < 6; t++) {
            many.mkVar(t, 0);
        }
        many.rule(REFL, 0, 0, 0);
        for (int kind : new int[] {TRANS, MK_COMB, EQ_MP, DEDUCT}) {
            Due.refused("rule " + kind + " of term 3 as a", many, () -> many.rule(kind, 3, 0, 0));
            Due.refused("rule " + kind + " of term 3 as b", many, () -> many.rule(kind, 0, 3, 0));
        }
        Due.refused("R_ABS with term 3 as a", many, () -> many.rule(ABS, 3, 0, 0));
        Due.refused("R_INST with term 3 as a", many, () -> many.rule(INST, 3, 0, 0));
    }

    // "if the result breaks the MAX_HYPS ... limits (... more than MAX_HYPS hypotheses)".

    /** The theorem th with the hypotheses p(i) added for each i; terms 0 to 5 are p0 to p5. */
    private static int with(Traced k, int th, int... ids) {
        int carrier = -1;
        for (int id : ids) {
            int assumed = k.rule(ASSUME, id, 0, 0);
            carrier = carrier == -1 ? assumed : k.rule(DEDUCT, carrier, assumed, 0);
        }
        if (carrier == -1) {
            return th;
        }
        int equation = k.rule(DEDUCT, carrier, th, 0);
        return k.rule(EQ_MP, equation, carrier, 0);
    }

    /** Two theorems that the rule takes, with no hypotheses. */
    private static int[] pair(Traced k, int kind) {
        int f = k.mkVar(0, 3);
        int same = k.rule(REFL, 0, 0, 0);
        if (kind == MK_COMB) {
            return new int[] {k.rule(REFL, f, 0, 0), same};
        }
        if (kind == EQ_MP) {
            int equation = Due.equation(k, 0, 0);
            return new int[] {k.rule(REFL, equation, 0, 0), same};
        }
        return new int[] {same, same};
    }

    private static void mostHypotheses() {
        int[][][] cases = {
            {{}, {}}, {{0}, {}}, {{}, {1}}, {{0}, {0}}, {{0}, {1}}, {{1}, {0}}, {{0, 1}, {2}},
            {{2}, {0, 1}}, {{0, 2}, {1}}, {{0, 1}, {1, 2}}, {{0, 1, 2}, {}}, {{}, {0, 1, 2}},
            {{0, 1, 2}, {1}}, {{1}, {0, 1, 2}}, {{0, 1}, {2, 3}}, {{2, 3}, {0, 1}},
            {{0, 1, 2}, {3}}, {{3}, {0, 1, 2}}, {{1, 2, 3}, {0}}, {{0}, {1, 2, 3}},
            {{0, 2}, {1, 3}}};
        for (int kind : new int[] {TRANS, MK_COMB, EQ_MP, DEDUCT}) {
            for (int[][] ids : cases) {
                union(kind, ids[0], ids[1]);
            }
        }
    }

    private static void union(int kind, int[] left, int[] right) {
        Traced k = new Traced(32, 16);
        boolean[] due = new boolean[6];
        for (int i = 0; i < 6; i++) {
            k.mkVar(i, 0);
        }
        int[] theorems = pair(k, kind);
        int a = with(k, theorems[0], left);
        int b = with(k, theorems[1], right);
        int count = mark(due, left) + mark(due, right);
        String what = "rule " + kind + " with " + left.length + " and " + right.length
                + " hypotheses, " + count + " in all";
        Due.is(what + ", a", k.hypCount(a), left.length);
        Due.is(what + ", b", k.hypCount(b), right.length);
        if (count > 3) {
            Due.refused(what, k, () -> k.rule(kind, a, b, 0));
            return;
        }
        int made = k.rule(kind, a, b, 0);
        Due.is(what, k.hypCount(made), count);
        int part = 0;
        for (int i = 0; i < 6; i++) {
            if (due[i]) {
                part++;
                Due.is(what + ", part " + part, k.thmPartIs(made, part, i), true);
            }
        }
    }

    /** Marks what is not yet marked, and says how many that were. */
    private static int mark(boolean[] marks, int[] ids) {
        int fresh = 0;
        for (int id : ids) {
            fresh += marks[id] ? 0 : 1;
            marks[id] = true;
        }
        return fresh;
    }

    /** R_ABS and R_INST keep up to MAX_HYPS hypotheses as they are. */
    private static void keptHypotheses() {
        Traced k = new Traced(32, 16);
        for (int i = 0; i < 6; i++) {
            k.mkVar(i, 0);
        }
        int three = with(k, k.rule(REFL, 5, 0, 0), 0, 1, 2);
        int abs = k.rule(ABS, three, 5, 0);
        int inst = k.rule(INST, three, 5, 4);
        for (int th : new int[] {abs, inst}) {
            Due.is("three hypotheses", k.hypCount(th), 3);
            for (int i = 0; i < 3; i++) {
                Due.is("hypothesis " + i, k.thmPartIs(th, i + 1, i), true);
            }
        }
    }

    // "if the result breaks the ... MAX_SIZE limits (any conclusion or hypothesis larger than ...)"

    private static void reflSizes() {
        Traced k = new Traced(32, 16);
        Sized sized = new Sized(k);
        int t14 = sized.of(14);
        Due.is("R_REFL of size 14", k.thmSize(k.rule(REFL, t14, 0, 0), 0), 31);
        for (int size : new int[] {15, 16, 29, 31, 32}) {
            int t = sized.of(size);
            Due.refused("R_REFL of size " + size, k, () -> k.rule(REFL, t, 0, 0));
        }
    }

    private static void transSizes() {
        Traced k = new Traced(32, 16);
        Sized sized = new Sized(k);
        int from13 = sized.assumedEquation(13, 1);
        int to16 = sized.assumedEquation(1, 16);
        int made = k.rule(TRANS, from13, to16, 0);
        Due.is("R_TRANS of size 32", k.thmSize(made, 0), 32);
        int from14 = sized.assumedEquation(14, 1);
        Due.refused("R_TRANS of size 33", k, () -> k.rule(TRANS, from14, to16, 0));
        int from16 = sized.assumedEquation(16, 1);
        Due.refused("R_TRANS of size 35", k, () -> k.rule(TRANS, from16, to16, 0));
        // What is cut out may be large, if the ends are small.
        int toMiddle = sized.assumedEquation(1, 16);
        int fromMiddle = sized.assumedEquation(16, 1);
        Due.is("R_TRANS over a large middle",
                k.thmSize(k.rule(TRANS, toMiddle, fromMiddle, 0), 0), 5);
    }

    private static void mkCombSizes() {
        Traced k = new Traced(32, 16);
        Sized sized = new Sized(k);
        int functions = k.rule(REFL, sized.f, 0, 0);
        int within = sized.assumedEquation(12, 13);
        int beyond = sized.assumedEquation(13, 13);
        int far = sized.assumedEquation(13, 16);
        int made = k.rule(MK_COMB, functions, within, 0);
        Due.is("R_MK_COMB of size 32", k.thmSize(made, 0), 32);
        Due.is("its last node", k.thmNode(made, 0, 31), Due.var(0, 0));
        Due.refused("R_MK_COMB of size 33", k, () -> k.rule(MK_COMB, functions, beyond, 0));
        Due.refused("R_MK_COMB of size 36", k, () -> k.rule(MK_COMB, functions, far, 0));
    }

    private static void absSizes() {
        Traced k = new Traced(32, 16);
        Sized sized = new Sized(k);
        int x = k.mkVar(0, 1);
        int y = k.mkVar(0, 2);
        int within = sized.assumedEquation(13, 14);
        int beyond = sized.assumedEquation(14, 14);
        int far = sized.assumedEquation(13, 16);
        int made = k.rule(ABS, within, x, 0);
        Due.is("R_ABS of size 32", k.thmSize(made, 0), 32);
        Due.is("size of its hypothesis", k.thmSize(made, 1), 30);
        Due.refused("R_ABS of size 33", k, () -> k.rule(ABS, beyond, x, 0));
        Due.refused("R_ABS of size 33, new types", k, () -> k.rule(ABS, beyond, y, 0));
        Due.refused("R_ABS of size 34", k, () -> k.rule(ABS, far, x, 0));
    }

    /** (\x. t) u has 2 + size(t) + size(u) nodes, and size(t) when contracted if x is not in t. */
    private static void betaSizes() {
        for (int kind : new int[] {BETA, NORM}) {
            Traced k = new Traced(32, 16);
            Sized sized = new Sized(k);
            int x = k.mkVar(0, 1);
            int id = k.mkAbs(x, x);
            int g = k.mkVar(0, k.termType(id));
            int constant = k.mkAbs(x, sized.of(13));
            int constantOfG = k.mkAbs(g, sized.of(13));
            int within = k.mkComb(constant, x);
            int beyond = k.mkComb(constantOfG, id);
            int far = k.mkComb(constant, k.mkComb(g, x));
            int made = k.rule(kind, within, 0, 0);
            Due.is("rule " + kind + " of size 32", k.thmSize(made, 0), 32);
            Due.is("its last node", k.thmNode(made, 0, 31), Due.var(0, 0));
            Due.is("size of (\\g. t13) (\\x. x)", k.termSize(beyond), 17);
            Due.refused("rule " + kind + " of size 33", k, () -> k.rule(kind, beyond, 0, 0));
            Due.refused("rule " + kind + " of size 34", k, () -> k.rule(kind, far, 0, 0));
        }
    }

    private static void assumeAndEqMpSizes() {
        Traced k = new Traced(32, 16);
        Sized sized = new Sized(k);
        int large = sized.assumed(32);
        Due.is("R_ASSUME of size 32", k.thmSize(large, 0), 32);
        Due.is("its hypothesis", k.thmSize(large, 1), 32);
        int equation = sized.assumedEquation(1, 28);
        int premise = sized.assumed(1);
        int made = k.rule(EQ_MP, equation, premise, 0);
        Due.is("R_EQ_MP of an equation of size 32", k.thmSize(made, 0), 28);
        Due.is("its hypothesis of size 32", k.thmSize(made, 2), 32);
        int back = sized.assumedEquation(28, 1);
        Due.is("R_EQ_MP the other way", k.thmSize(k.rule(EQ_MP, back, made, 0), 0), 1);
    }

    private static void deductSizes() {
        Traced k = new Traced(32, 16);
        Sized sized = new Sized(k);
        int t1 = sized.assumed(1);
        int t13 = sized.assumed(13);
        int t14 = sized.assumed(14);
        int t15 = sized.assumed(15);
        int t16 = sized.assumed(16);
        int t28 = sized.assumed(28);
        int t29 = sized.assumed(29);
        Due.is("R_DEDUCT of 13 and 16", k.thmSize(k.rule(DEDUCT, t13, t16, 0), 0), 32);
        Due.is("R_DEDUCT of 28 and 1", k.thmSize(k.rule(DEDUCT, t28, t1, 0), 0), 32);
        Due.is("R_DEDUCT of 14 and 15", k.thmSize(k.rule(DEDUCT, t14, t15, 0), 0), 32);
        Due.refused("R_DEDUCT of 14 and 16", k, () -> k.rule(DEDUCT, t14, t16, 0));
        Due.refused("R_DEDUCT of 15 and 15", k, () -> k.rule(DEDUCT, t15, t15, 0));
        Due.refused("R_DEDUCT of 1 and 29", k, () -> k.rule(DEDUCT, t1, t29, 0));
        Due.refused("R_DEDUCT of 29 and 29", k, () -> k.rule(DEDUCT, t29, t29, 0));
    }

    private static void instSizes() {
        Traced k = new Traced(32, 16);
        Sized sized = new Sized(k);
        int q = k.mkVar(1, 0);
        int once = k.rule(ASSUME, k.mkComb(k.mkComb(sized.eq, q), sized.of(13)), 0, 0);
        int t16 = sized.of(16);
        int t17 = sized.of(17);
        int made = k.rule(INST, once, q, t16);
        Due.is("R_INST, conclusion of size 32", k.thmSize(made, 0), 32);
        Due.is("R_INST, hypothesis of size 32", k.thmSize(made, 1), 32);
        Due.refused("R_INST, both of size 33", k, () -> k.rule(INST, once, q, t17));

        // Only the hypothesis grows: q = t13 is p(5) weakened onto |- p = p.
        int same = k.rule(REFL, sized.p, 0, 0);
        int equation = k.rule(DEDUCT, once, same, 0);
        int weak = k.rule(EQ_MP, equation, once, 0);
        Due.is("q = t13 |- p = p", k.hypCount(weak), 1);
        Due.is("hypothesis of size 32", k.thmSize(k.rule(INST, weak, q, t16), 1), 32);
        Due.refused("a hypothesis of size 33", k, () -> k.rule(INST, weak, q, t17));

        // Only the conclusion grows.
        int free = k.rule(REFL, q, 0, 0);
        Due.is("conclusion of size 31", k.thmSize(k.rule(INST, free, q, sized.of(14)), 0), 31);
        int t15 = sized.of(15);
        Due.refused("a conclusion of size 33", k, () -> k.rule(INST, free, q, t15));
    }

    /** "if the types to intern do not fit": these five rules intern none. */
    private static void rulesThatNeedNoRoomForTypes() {
        Traced k = new Traced(32, 16);
        int p = k.mkVar(0, 0);
        int q = k.mkVar(1, 0);
        int x = k.mkVar(0, 1);
        int same = k.rule(REFL, x, 0, 0);
        Due.fillTypes(k, 48);
        int assumed = k.rule(ASSUME, p, 0, 0);
        Due.is("R_ASSUME, full type table", assumed, 1);
        Due.is("R_TRANS, full type table", k.rule(TRANS, same, same, 0), 2);
        Due.is("R_DEDUCT, full type table", k.rule(DEDUCT, assumed, assumed, 0), 3);
        Due.is("R_EQ_MP, full type table", k.rule(EQ_MP, 3, assumed, 0), 4);
        Due.is("R_INST, full type table", k.rule(INST, assumed, p, q), 5);
        // And those that intern BOOL's types find them in the table.
        int f = k.mkVar(0, 3);
        Due.is("R_REFL of p, full type table", k.rule(REFL, p, 0, 0), 6);
        Due.refused("R_REFL of f, full type table", k, () -> k.rule(REFL, f, 0, 0));
        Due.is("typeCount()", k.typeCount(), 48);
    }

    /** "Types are interned only when the call succeeds." */
    private static void typesOnlyWithSuccess() {
        Traced k = new Traced(32, 16);
        Sized sized = new Sized(k);
        int x = k.mkVar(0, 1);
        int y = k.mkVar(0, 2);
        int large = k.mkAbs(x, sized.of(15));
        Due.refused("R_REFL, too large, new types", k, () -> k.rule(REFL, large, 0, 0));
        Due.refused("R_BETA_NORM, too large, new types", k, () -> k.rule(NORM, large, 0, 0));
        int redex = k.mkComb(k.mkAbs(y, large), y);
        Due.refused("R_BETA, too large, new types", k, () -> k.rule(BETA, redex, 0, 0));
        int f = k.mkVar(1, k.mkFun(0, 2));
        int functions = k.rule(REFL, f, 0, 0);
        int arguments = sized.assumedEquation(13, 13);
        Due.refused("R_MK_COMB, too large, new types", k,
                () -> k.rule(MK_COMB, functions, arguments, 0));
        int equation = Due.equation(k, x, x);
        int assumed = k.rule(ASSUME, equation, 0, 0);
        Due.refused("R_ABS, x in a hypothesis, new types", k, () -> k.rule(ABS, assumed, x, 0));

        Traced h = new Traced(32, 16);
        for (int i = 0; i < 6; i++) {
            h.mkVar(i, 0);
        }
        int g = h.mkVar(0, h.mkFun(0, 2));
        int a = with(h, h.rule(REFL, g, 0, 0), 0, 1);
        int b = with(h, h.rule(REFL, 5, 0, 0), 2, 3);
        Due.refused("R_MK_COMB, four hypotheses, new types", h, () -> h.rule(MK_COMB, a, b, 0));
    }

    /** "or if the theorem table is full (it already holds its clamped capacity)". */
    private static void fullTheoremTable() {
        for (int maxThms : new int[] {Integer.MIN_VALUE, 3, 4, 5, 15, 16, 17, Integer.MAX_VALUE}) {
            Traced k = new Traced(32, maxThms);
            int p = k.mkVar(0, 0);
            int f = k.mkVar(0, 3);
            int x = k.mkVar(0, 1);
            int redex = k.mkComb(k.mkAbs(x, x), x);
            int capacity = k.thmCapacity();
            k.rule(REFL, p, 0, 0);
            k.rule(REFL, f, 0, 0);
            for (int th = 2; th < capacity; th++) {
                Due.is("theorem " + th + " of " + capacity, k.rule(ASSUME, p, 0, 0), th);
            }
            int[][] calls = {{REFL, x, 0, 0}, {TRANS, 0, 0, 0}, {MK_COMB, 1, 0, 0}, {ABS, 0, x, 0},
                {BETA, redex, 0, 0}, {NORM, redex, 0, 0}, {ASSUME, p, 0, 0}, {EQ_MP, 0, 2, 0},
                {DEDUCT, 0, 2, 0}, {INST, 0, p, p}};
            for (int[] c : calls) {
                Due.refused("rule " + c[0] + ", " + capacity + " theorems", k,
                        () -> k.rule(c[0], c[1], c[2], c[3]));
            }
            Due.is("mkVar with a full theorem table", k.mkVar(1, 0), 5);
            Due.is("mkFun with a full theorem table", k.mkFun(2, 2), 8);
        }
    }

    /** "rule() never adds or changes arena terms and never changes existing theorems." */
    private static void arenaTermsAndOldTheoremsStay() {
        Traced k = new Traced(32, 16);
        Sized sized = new Sized(k);
        int q = k.mkVar(1, 0);
        int x = k.mkVar(0, 1);
        sized.of(16);
        int[][] calls = {{REFL, sized.of(13), 0, 0}, {ASSUME, sized.of(16), 0, 0},
            {ASSUME, q, 0, 0}, {TRANS, 0, 0, 0}, {REFL, sized.f, 0, 0}, {REFL, q, 0, 0},
            {MK_COMB, 4, 5, 0}, {ABS, 0, x, 0}, {BETA, sized.of(16), 0, 0},
            {NORM, sized.of(16), 0, 0}, {EQ_MP, 8, 1, 0}, {DEDUCT, 1, 2, 0}, {DEDUCT, 2, 1, 0},
            {INST, 11, q, sized.p}, {INST, 11, sized.p, q}, {INST, 12, sized.f, sized.id}};
        String terms = Due.terms(k);
        for (int i = 0; i < 16; i++) {
            int[] c = calls[i];
            String thms = Due.thms(k);
            Due.is("call " + i, k.rule(c[0], c[1], c[2], c[3]), i);
            Due.same("terms after call " + i, Due.terms(k), terms);
            Due.is("old theorems after call " + i, Due.thms(k).startsWith(thms), true);
        }
    }

    /** A rule makes no arena term, so a full arena doesn't stop it. */
    private static void fullArenaDoesNotMatter() {
        Traced k = new Traced(8, 16);
        int p = k.mkVar(0, 0);
        int f = k.mkVar(0, 3);
        int x = k.mkVar(0, 1);
        int redex = k.mkComb(k.mkAbs(x, x), x);
        Due.fillTerms(k, 0);
        int[][] calls = {{REFL, p, 0, 0}, {REFL, f, 0, 0}, {TRANS, 0, 0, 0}, {MK_COMB, 1, 0, 0},
            {ABS, 0, x, 0}, {BETA, redex, 0, 0}, {NORM, redex, 0, 0}, {ASSUME, p, 0, 0},
            {EQ_MP, 0, 7, 0}, {DEDUCT, 0, 7, 0}, {INST, 0, p, p}};
        for (int i = 0; i < calls.length; i++) {
            int[] c = calls[i];
            Due.is("rule " + c[0] + " with a full arena", k.rule(c[0], c[1], c[2], c[3]), i);
        }
        Due.is("the arena is full still", k.mkVar(0, 0), -1);
    }

    /** "Where two theorem handles are used they may be the same handle." */
    private static void oneTheoremTwice() {
        Traced k = new Traced(32, 16);
        int p = k.mkVar(0, 0);
        int same = k.rule(REFL, p, 0, 0);
        int assumed = k.rule(ASSUME, Due.equation(k, p, p), 0, 0);
        Due.is("R_TRANS of one theorem", k.rule(TRANS, same, same, 0), 2);
        Due.part("p = p", k, 2, 0, Due.COMB, Due.COMB, Due.eq(0), Due.var(0, 0), Due.var(0, 0));
        Due.is("R_TRANS of one theorem with a hypothesis", k.rule(TRANS, assumed, assumed, 0), 3);
        Due.is("it stands once", k.hypCount(3), 1);
        Due.is("R_DEDUCT of one theorem", k.rule(DEDUCT, same, same, 0), 4);
        Due.is("size of (p = p) = (p = p)", k.thmSize(4, 0), 13);
        Due.is("R_DEDUCT of one with a hypothesis", k.rule(DEDUCT, assumed, assumed, 0), 5);
        Due.is("its own conclusion goes", k.hypCount(5), 0);
        // These two can't take one theorem twice: no term is a part of itself.
        int functions = k.rule(REFL, k.mkVar(0, 3), 0, 0);
        Due.refused("R_MK_COMB of one", k, () -> k.rule(MK_COMB, functions, functions, 0));
        Due.refused("R_EQ_MP of one", k, () -> k.rule(EQ_MP, same, same, 0));
        // Two handles of arena terms may be the same as well.
        Due.is("R_INST of p by p", k.rule(INST, assumed, p, p), 7);
        Due.is("it stays as it is", k.thmSize(7, 1), 5);
    }
}
