/**
 * The kernel of a small higher-order logic. Types, terms and theorems live inside the object and
 * are named by int handles; a theorem can be made by rule() alone and never changes afterwards.
 *
 * <p>Every term, whether it stands in the arena or is part of a theorem, lies in a slot of its
 * own: MAX_SIZE cells that hold the codes of its nodes in prefix order. What a call builds lies in
 * the first slots that no handle names yet, so a refused call leaves nothing that can be seen.
 */
public final class HolKernel {
    public static final int BOOL = 0;
    public static final int TY_A = 1;
    public static final int TY_B = 2;
    public static final int MAX_TYPES = 48;
    public static final int MAX_SIZE = 32;
    public static final int MAX_HYPS = 3;
    public static final int MAX_VAR_ID = 15;
    public static final int MAX_STEPS = 64;
    public static final int NODE_VAR = 1;
    public static final int NODE_EQ = 2;
    public static final int NODE_COMB = 3;
    public static final int NODE_ABS = 4;
    public static final int NODE_BOUND = 5;
    public static final int R_REFL = 1;
    public static final int R_TRANS = 2;
    public static final int R_MK_COMB = 3;
    public static final int R_ABS = 4;
    public static final int R_BETA = 5;
    public static final int R_BETA_NORM = 6;
    public static final int R_ASSUME = 7;
    public static final int R_EQ_MP = 8;
    public static final int R_DEDUCT_ANTISYM = 9;
    public static final int R_INST = 10;

    // The answer of a refused call and of a search that found nothing.
    private static final int NONE = -1;

    private static final int FIRST_FUN = 3;
    private static final int PRESET_TYPES = 5;

    private static final int LEAST_TERMS = 8;
    private static final int MOST_TERMS = 32;
    private static final int LEAST_THMS = 4;
    private static final int MOST_THMS = 16;

    // The slots: those of the arena (a term's handle is its slot), then PARTS for each theorem,
    // then two to work in.
    private static final int PARTS = MAX_HYPS + 1;
    private static final int FIRST_PART = MOST_TERMS;
    private static final int WORK = FIRST_PART + MOST_THMS * PARTS;
    private static final int SPARE = WORK + 1;
    private static final int SLOTS = SPARE + 1;
    private static final int CELLS = SLOTS * MAX_SIZE;

    private static final int KIND_UNIT = 65536;
    private static final int INDEX_UNIT = 256;
    private static final int COMB_CODE = NODE_COMB * KIND_UNIT;

    // Where EQ(a) and s stand in s = t, which is COMB(COMB(EQ(a),s),t).
    private static final int EQ_AT = 2;
    private static final int LEFT_AT = 3;

    private final int[] funArg = new int[MAX_TYPES];
    private final int[] funResult = new int[MAX_TYPES];
    private int types;

    private final int[] codes = new int[CELLS];
    private final int[] sizes = new int[SLOTS];

    private final int[] termTypes = new int[MOST_TERMS];
    private final int termCapacity;
    private int terms;

    private final int[] hyps = new int[MOST_THMS];
    private final int thmCapacity;
    private int thms;

    // How many ABS nodes lie above each position of the term last given to markDepths.
    private final int[] depths = new int[MAX_SIZE];

    public HolKernel(int maxTerms, int maxThms) {
        termCapacity = clamp(maxTerms, LEAST_TERMS, MOST_TERMS);
        thmCapacity = clamp(maxThms, LEAST_THMS, MOST_THMS);
        funArg[FIRST_FUN] = BOOL;
        funResult[FIRST_FUN] = BOOL;
        funArg[FIRST_FUN + 1] = BOOL;
        funResult[FIRST_FUN + 1] = FIRST_FUN;
        types = PRESET_TYPES;
    }

    public int mkFun(int d, int c) {
        return isType(d) && isType(c) ? internFun(d, c) : NONE;
    }

    public int typeArg(int ty, int which) {
        if (!isType(ty) || ty < FIRST_FUN) {
            return NONE;
        }
        if (which == 0) {
            return funArg[ty];
        }
        return which == 1 ? funResult[ty] : NONE;
    }

    public int typeCount() {
        return types;
    }

    public int mkVar(int id, int ty) {
        if (id < 0 || id > MAX_VAR_ID || !isType(ty) || terms >= termCapacity) {
            return NONE;
        }
        sizes[terms] = 0;
        append(terms, NODE_VAR * KIND_UNIT + id * INDEX_UNIT + ty);
        return keepTerm(ty);
    }

    public int mkEq(int a) {
        if (!isType(a) || terms >= termCapacity) {
            return NONE;
        }
        int type = internEqTypes(a);
        if (type == NONE) {
            return NONE;
        }
        sizes[terms] = 0;
        append(terms, NODE_EQ * KIND_UNIT + a);
        return keepTerm(type);
    }

    public int mkComb(int f, int x) {
        if (!isTerm(f) || !isTerm(x) || terms >= termCapacity) {
            return NONE;
        }
        int type = termTypes[f];
        if (!takes(type, termTypes[x]) || 1 + sizes[f] + sizes[x] > MAX_SIZE) {
            return NONE;
        }
        sizes[terms] = 0;
        append(terms, COMB_CODE);
        appendRun(terms, f, 0, sizes[f]);
        appendRun(terms, x, 0, sizes[x]);
        return keepTerm(funResult[type]);
    }

    public int mkAbs(int v, int s) {
        if (!isVariable(v) || !isTerm(s) || terms >= termCapacity || 1 + sizes[s] > MAX_SIZE) {
            return NONE;
        }
        int type = internFun(termTypes[v], termTypes[s]);
        if (type == NONE) {
            return NONE;
        }
        sizes[terms] = 0;
        markDepths(s);
        appendAbstraction(terms, v, s, 0, sizes[s]);
        return keepTerm(type);
    }

    public int termType(int t) {
        return isTerm(t) ? termTypes[t] : NONE;
    }

    public int termSize(int t) {
        return isTerm(t) ? sizes[t] : NONE;
    }

    public int termNode(int t, int pos) {
        return isTerm(t) ? codeOrNone(t, pos) : NONE;
    }

    public int rule(int kind, int a, int b, int c) {
        if (thms >= thmCapacity) {
            return NONE;
        }
        hyps[thms] = 0;
        boolean made = false;
        switch (kind) {
            case R_REFL: made = byRefl(a); break;
            case R_TRANS: made = byTrans(a, b); break;
            case R_MK_COMB: made = byMkComb(a, b); break;
            case R_ABS: made = byAbs(a, b); break;
            case R_BETA: made = byBeta(a); break;
            case R_BETA_NORM: made = byBetaNorm(a); break;
            case R_ASSUME: made = byAssume(a); break;
            case R_EQ_MP: made = byEqMp(a, b); break;
            case R_DEDUCT_ANTISYM: made = byDeductAntisym(a, b); break;
            case R_INST: made = byInst(a, b, c); break;
            default: break;
        }
        if (!made) {
            return NONE;
        }
        thms++;
        return thms - 1;
    }

    public int hypCount(int th) {
        return isThm(th) ? hyps[th] : NONE;
    }

    public int thmSize(int th, int part) {
        return isPart(th, part) ? sizes[partSlot(th, part)] : NONE;
    }

    public int thmNode(int th, int part, int pos) {
        if (!isPart(th, part)) {
            return NONE;
        }
        int slot = partSlot(th, part);
        return codeOrNone(slot, pos);
    }

    public boolean thmPartIs(int th, int part, int t) {
        if (!isPart(th, part) || !isTerm(t)) {
            return false;
        }
        int slot = partSlot(th, part);
        return compareTerms(slot, t) == 0;
    }

    // The rules. Each builds the theorem that is to get the handle thms, and says whether it could.
    // Types are interned by the last test of all, for after it nothing may refuse the call.

    private boolean byRefl(int t) {
        return isTerm(t) && concludeEquation(termTypes[t], t, t);
    }

    private boolean byTrans(int a, int b) {
        if (!isEquation(a) || !isEquation(b)) {
            return false;
        }
        int first = partSlot(a, 0);
        int second = partSlot(b, 0);
        int firstRight = endOf(first, LEFT_AT);
        int secondRight = endOf(second, LEFT_AT);
        int length = sizes[first] - firstRight;
        if (secondRight - LEFT_AT != length
                || !sameRun(first, firstRight, second, LEFT_AT, length)) {
            return false;
        }
        int out = partSlot(thms, 0);
        int type = typeAt(first, EQ_AT);
        startEquation(out, type);
        appendRun(out, first, LEFT_AT, firstRight);
        appendRun(out, second, secondRight, sizes[second]);
        return sizes[out] <= MAX_SIZE && addHyps(a, NONE) && addHyps(b, NONE);
    }

    private boolean byMkComb(int a, int b) {
        if (!isEquation(a) || !isEquation(b)) {
            return false;
        }
        int functions = partSlot(a, 0);
        int arguments = partSlot(b, 0);
        int funType = typeAt(functions, EQ_AT);
        int argType = typeAt(arguments, EQ_AT);
        if (!takes(funType, argType)) {
            return false;
        }
        int rightFunction = endOf(functions, LEFT_AT);
        int rightArgument = endOf(arguments, LEFT_AT);
        int out = partSlot(thms, 0);
        startEquation(out, funResult[funType]);
        append(out, COMB_CODE);
        appendRun(out, functions, LEFT_AT, rightFunction);
        appendRun(out, arguments, LEFT_AT, rightArgument);
        append(out, COMB_CODE);
        appendRun(out, functions, rightFunction, sizes[functions]);
        appendRun(out, arguments, rightArgument, sizes[arguments]);
        return sizes[out] <= MAX_SIZE && addHyps(a, NONE) && addHyps(b, NONE)
                && internEqTypes(funResult[funType]) != NONE;
    }

    private boolean byAbs(int a, int v) {
        if (!isEquation(a) || !isVariable(v) || occursInHyps(v, a)) {
            return false;
        }
        int from = partSlot(a, 0);
        if (2 + sizes[from] > MAX_SIZE || !addHyps(a, NONE)) {
            return false;
        }
        int sideType = typeAt(from, EQ_AT);
        int type = internAbsTypes(termTypes[v], sideType);
        if (type == NONE) {
            return false;
        }
        int out = partSlot(thms, 0);
        int right = endOf(from, LEFT_AT);
        startEquation(out, type);
        markDepths(from);
        appendAbstraction(out, v, from, LEFT_AT, right);
        appendAbstraction(out, v, from, right, sizes[from]);
        return true;
    }

    private boolean byBeta(int t) {
        if (!isTerm(t) || !isRedex(t, 0)) {
            return false;
        }
        contract(t, 0, WORK);
        return sizes[WORK] <= MAX_SIZE && concludeEquation(termTypes[t], t, WORK);
    }

    private boolean byBetaNorm(int t) {
        if (!isTerm(t)) {
            return false;
        }
        copyTerm(t, WORK);
        int redex = leftmostRedex(WORK);
        for (int step = 0; step < MAX_STEPS && redex != NONE; step++) {
            contract(WORK, redex, SPARE);
            if (sizes[SPARE] > MAX_SIZE) {
                return false;
            }
            copyTerm(SPARE, WORK);
            redex = leftmostRedex(WORK);
        }
        return redex == NONE && concludeEquation(termTypes[t], t, WORK);
    }

    private boolean byAssume(int p) {
        if (!isTerm(p) || termTypes[p] != BOOL) {
            return false;
        }
        int out = partSlot(thms, 0);
        copyTerm(p, out);
        return insertHyp(p);
    }

    private boolean byEqMp(int a, int b) {
        if (!isEquation(a) || !isThm(b)) {
            return false;
        }
        int equation = partSlot(a, 0);
        int premise = partSlot(b, 0);
        int right = endOf(equation, LEFT_AT);
        if (right - LEFT_AT != sizes[premise]
                || !sameRun(equation, LEFT_AT, premise, 0, sizes[premise])) {
            return false;
        }
        int out = partSlot(thms, 0);
        sizes[out] = 0;
        appendRun(out, equation, right, sizes[equation]);
        return addHyps(a, NONE) && addHyps(b, NONE);
    }

    private boolean byDeductAntisym(int a, int b) {
        if (!isThm(a) || !isThm(b)) {
            return false;
        }
        int left = partSlot(a, 0);
        int right = partSlot(b, 0);
        return addHyps(a, right) && addHyps(b, left) && concludeEquation(BOOL, left, right);
    }

    private boolean byInst(int a, int v, int u) {
        if (!isThm(a) || !isVariable(v) || !isTerm(u) || termTypes[v] != termTypes[u]) {
            return false;
        }
        int from = partSlot(a, 0);
        int out = partSlot(thms, 0);
        substitute(from, v, u, out);
        if (sizes[out] > MAX_SIZE) {
            return false;
        }
        int count = hyps[a];
        for (int part = 1; part <= count; part++) {
            int hyp = partSlot(a, part);
            substitute(hyp, v, u, WORK);
            if (sizes[WORK] > MAX_SIZE || !insertHyp(WORK)) {
                return false;
            }
        }
        return true;
    }

    // The theorem being built.

    private boolean concludeEquation(int type, int left, int right) {
        int out = partSlot(thms, 0);
        startEquation(out, type);
        appendRun(out, left, 0, sizes[left]);
        appendRun(out, right, 0, sizes[right]);
        return sizes[out] <= MAX_SIZE && internEqTypes(type) != NONE;
    }

    private void startEquation(int out, int type) {
        sizes[out] = 0;
        append(out, COMB_CODE);
        append(out, COMB_CODE);
        append(out, NODE_EQ * KIND_UNIT + type);
    }

    // Adds the hypotheses of theorem th other than the term in slot 'except', which may be NONE.
    private boolean addHyps(int th, int except) {
        int count = hyps[th];
        for (int part = 1; part <= count; part++) {
            int hyp = partSlot(th, part);
            boolean wanted = except == NONE || compareTerms(hyp, except) != 0;
            if (wanted && !insertHyp(hyp)) {
                return false;
            }
        }
        return true;
    }

    private boolean insertHyp(int term) {
        int first = partSlot(thms, 1);
        int count = hyps[thms];
        int at = 0;
        while (at < count && compareTerms(first + at, term) < 0) {
            at++;
        }
        if (at < count && compareTerms(first + at, term) == 0) {
            return true;
        }
        if (count >= MAX_HYPS) {
            return false;
        }
        for (int i = count; i > at; i--) {
            copyTerm(first + i - 1, first + i);
        }
        copyTerm(term, first + at);
        hyps[thms] = count + 1;
        return true;
    }

    private boolean occursInHyps(int v, int th) {
        int count = hyps[th];
        for (int part = 1; part <= count; part++) {
            int hyp = partSlot(th, part);
            if (occursIn(v, hyp)) {
                return true;
            }
        }
        return false;
    }

    // The arena.

    private int keepTerm(int type) {
        termTypes[terms] = type;
        terms++;
        return terms - 1;
    }

    // Building terms, node by node.

    // A slot's size also counts the nodes that found no room, so that whoever builds a term can
    // test its size once, at the end.
    private void append(int out, int code) {
        if (sizes[out] < MAX_SIZE) {
            codes[out * MAX_SIZE + sizes[out]] = code;
        }
        sizes[out]++;
    }

    private void appendRun(int out, int slot, int from, int to) {
        for (int pos = from; pos < to; pos++) {
            append(out, codes[slot * MAX_SIZE + pos]);
        }
    }

    // Appends the abstraction of variable v in the subterm at from..to-1 of a slot whose depths
    // are marked and that has no ABS node above the subterm.
    private void appendAbstraction(int out, int v, int slot, int from, int to) {
        append(out, NODE_ABS * KIND_UNIT + termTypes[v]);
        for (int pos = from; pos < to; pos++) {
            int code = codes[slot * MAX_SIZE + pos];
            if (code == codes[v * MAX_SIZE]) {
                code = NODE_BOUND * KIND_UNIT + depths[pos] * INDEX_UNIT + termTypes[v];
            }
            append(out, code);
        }
    }

    // A term of the arena is closed, so u goes under ABS nodes as it is.
    private void substitute(int slot, int v, int u, int out) {
        int size = sizes[slot];
        sizes[out] = 0;
        for (int pos = 0; pos < size; pos++) {
            int code = codes[slot * MAX_SIZE + pos];
            if (code == codes[v * MAX_SIZE]) {
                appendRun(out, u, 0, sizes[u]);
            } else {
                append(out, code);
            }
        }
    }

    private void contract(int slot, int redex, int out) {
        int body = redex + 2;
        int arg = endOf(slot, body);
        int rest = endOf(slot, arg);
        markDepths(slot);
        sizes[out] = 0;
        appendRun(out, slot, 0, redex);
        for (int pos = body; pos < arg; pos++) {
            int code = codes[slot * MAX_SIZE + pos];
            int inside = depths[pos] - depths[body];
            boolean bound = kindAt(slot, pos) == NODE_BOUND;
            int index = indexAt(slot, pos);
            if (bound && index == inside) {
                appendLifted(out, slot, arg, rest, inside);
            } else if (bound && index > inside) {
                append(out, code - INDEX_UNIT);
            } else {
                append(out, code);
            }
        }
        appendRun(out, slot, rest, sizes[slot]);
    }

    // Appends the subterm at from..to-1 for a place 'lift' ABS nodes deeper: what its BOUND nodes
    // refer to outside of it is then as much farther away.
    private void appendLifted(int out, int slot, int from, int to, int lift) {
        for (int pos = from; pos < to; pos++) {
            int code = codes[slot * MAX_SIZE + pos];
            int inside = depths[pos] - depths[from];
            if (kindAt(slot, pos) == NODE_BOUND && indexAt(slot, pos) >= inside) {
                code += lift * INDEX_UNIT;
            }
            append(out, code);
        }
    }

    private void copyTerm(int from, int to) {
        int size = sizes[from];
        sizes[to] = size;
        for (int pos = 0; pos < size; pos++) {
            codes[to * MAX_SIZE + pos] = codes[from * MAX_SIZE + pos];
        }
    }

    // Reading terms.

    private int codeOrNone(int slot, int pos) {
        return pos >= 0 && pos < sizes[slot] ? codes[slot * MAX_SIZE + pos] : NONE;
    }

    private int kindAt(int slot, int pos) {
        return codes[slot * MAX_SIZE + pos] / KIND_UNIT;
    }

    private int indexAt(int slot, int pos) {
        return codes[slot * MAX_SIZE + pos] / INDEX_UNIT % INDEX_UNIT;
    }

    private int typeAt(int slot, int pos) {
        return codes[slot * MAX_SIZE + pos] % INDEX_UNIT;
    }

    // The position behind the subterm that begins at pos.
    private int endOf(int slot, int pos) {
        int size = sizes[slot];
        int missing = 1;
        int end = pos;
        while (end < size && missing > 0) {
            int kind = kindAt(slot, end);
            if (kind == NODE_COMB) {
                missing++;
            } else if (kind != NODE_ABS) {
                missing--;
            }
            end++;
        }
        return end;
    }

    private void markDepths(int slot) {
        int size = sizes[slot];
        for (int pos = 0; pos < size; pos++) {
            depths[pos] = 0;
        }
        for (int pos = 0; pos < size; pos++) {
            int end = kindAt(slot, pos) == NODE_ABS ? endOf(slot, pos) : pos;
            for (int below = pos + 1; below < end; below++) {
                depths[below]++;
            }
        }
    }

    private boolean occursIn(int v, int slot) {
        int size = sizes[slot];
        for (int pos = 0; pos < size; pos++) {
            if (codes[slot * MAX_SIZE + pos] == codes[v * MAX_SIZE]) {
                return true;
            }
        }
        return false;
    }

    private boolean isRedex(int slot, int pos) {
        return pos + 1 < sizes[slot] && kindAt(slot, pos) == NODE_COMB
                && kindAt(slot, pos + 1) == NODE_ABS;
    }

    private int leftmostRedex(int slot) {
        int size = sizes[slot];
        for (int pos = 0; pos < size; pos++) {
            if (isRedex(slot, pos)) {
                return pos;
            }
        }
        return NONE;
    }

    // Negative, zero or positive as the term in 'slot' comes before, equals or comes after the
    // other. Sizes can't decide: closed terms of different size differ within the shorter one.
    private int compareTerms(int slot, int other) {
        int shorter = sizes[slot] < sizes[other] ? sizes[slot] : sizes[other];
        for (int pos = 0; pos < shorter; pos++) {
            int difference = codes[slot * MAX_SIZE + pos] - codes[other * MAX_SIZE + pos];
            if (difference != 0) {
                return difference;
            }
        }
        return 0;
    }

    private boolean sameRun(int slot, int from, int other, int otherFrom, int length) {
        for (int i = 0; i < length; i++) {
            if (codes[slot * MAX_SIZE + from + i] != codes[other * MAX_SIZE + otherFrom + i]) {
                return false;
            }
        }
        return true;
    }

    // The type table.

    private boolean takes(int type, int argType) {
        return type >= FIRST_FUN && funArg[type] == argType;
    }

    private int findFun(int d, int c) {
        int count = types;
        for (int type = FIRST_FUN; type < count; type++) {
            if (funArg[type] == d && funResult[type] == c) {
                return type;
            }
        }
        return NONE;
    }

    private int internFun(int d, int c) {
        int found = findFun(d, c);
        if (found != NONE || types >= MAX_TYPES) {
            return found;
        }
        funArg[types] = d;
        funResult[types] = c;
        types++;
        return types - 1;
    }

    // Interns EQTYPES(a), all or none of it, and answers the type of EQ(a) or NONE.
    private int internEqTypes(int a) {
        int known = findFun(a, BOOL);
        // Without fun(a,BOOL) the second type can't be there either, so both need room.
        if (known == NONE && types + 2 > MAX_TYPES) {
            return NONE;
        }
        int test = internFun(a, BOOL);
        return internFun(a, test);
    }

    // Interns fun(d,c) and EQTYPES of it, all or none of them, and answers fun(d,c) or NONE.
    private int internAbsTypes(int d, int c) {
        int known = findFun(d, c);
        // Without fun(d,c) its EQTYPES can't be there either, so all three need room.
        if (known == NONE && types + 3 > MAX_TYPES) {
            return NONE;
        }
        int type = internFun(d, c);
        return internEqTypes(type) == NONE ? NONE : type;
    }

    // Handles.

    private boolean isType(int ty) {
        return ty >= 0 && ty < types;
    }

    private boolean isTerm(int t) {
        return t >= 0 && t < terms;
    }

    private boolean isVariable(int t) {
        return isTerm(t) && kindAt(t, 0) == NODE_VAR;
    }

    private boolean isThm(int th) {
        return th >= 0 && th < thms;
    }

    private boolean isPart(int th, int part) {
        return isThm(th) && part >= 0 && part <= hyps[th];
    }

    // A term that begins with COMB has two nodes more, so its first three may be looked at.
    private boolean isEquation(int th) {
        if (!isThm(th)) {
            return false;
        }
        int slot = partSlot(th, 0);
        return kindAt(slot, 0) == NODE_COMB && kindAt(slot, 1) == NODE_COMB
                && kindAt(slot, EQ_AT) == NODE_EQ;
    }

    private static int partSlot(int th, int part) {
        return FIRST_PART + th * PARTS + part;
    }

    private static int clamp(int value, int least, int most) {
        if (value < least) {
            return least;
        }
        return value > most ? most : value;
    }
}
