import java.util.ArrayList;
import java.util.Collections;
import java.util.List;

/**
 * The document again, written another way: terms are trees, functions are recursive and objects
 * are made freely. ModelTest compares the kernel with it, call by call.
 */
final class Model {
    /** A node with its children; l is the one child of ABS. */
    record Term(int kind, int p, int q, Term l, Term r) {
        int size() {
            return 1 + (l == null ? 0 : l.size()) + (r == null ? 0 : r.size());
        }

        void addCodes(List<Integer> to) {
            to.add(kind * 65536 + p * 256 + q);
            if (l != null) {
                l.addCodes(to);
            }
            if (r != null) {
                r.addCodes(to);
            }
        }

        List<Integer> codes() {
            List<Integer> list = new ArrayList<>();
            addCodes(list);
            return list;
        }
    }

    record Fun(int d, int c) {
    }

    record Thm(List<Term> hyps, Term conclusion) {
        Term part(int n) {
            return n == 0 ? conclusion : hyps.get(n - 1);
        }
    }

    private static final class Refused extends Exception {
        private static final long serialVersionUID = 1L;
    }

    private final int termCapacity;
    private final int thmCapacity;
    private List<Fun> types = new ArrayList<>();
    final List<Term> terms = new ArrayList<>();
    final List<Thm> thms = new ArrayList<>();

    Model(int maxTerms, int maxThms) {
        termCapacity = Math.max(8, Math.min(32, maxTerms));
        thmCapacity = Math.max(4, Math.min(16, maxThms));
        for (int base = 0; base < 3; base++) {
            types.add(new Fun(-1, -1));
        }
        types.add(new Fun(0, 0));
        types.add(new Fun(0, 3));
    }

    Fun type(int ty) {
        return types.get(ty);
    }

    int typeOf(Term t) {
        return typeOf(t, types);
    }

    private static int typeOf(Term t, List<Fun> table) {
        switch (t.kind()) {
            case 2:
                return table.indexOf(new Fun(t.q(), table.indexOf(new Fun(t.q(), 0))));
            case 3:
                return table.get(typeOf(t.l(), table)).c();
            case 4:
                return table.indexOf(new Fun(t.q(), typeOf(t.l(), table)));
            default:
                return t.q();
        }
    }

    // ---- the methods of the document ----

    int mkFun(int d, int c) {
        try {
            need(isType(d) && isType(c));
            List<Fun> table = new ArrayList<>(types);
            int made = intern(table, d, c);
            types = table;
            return made;
        } catch (Refused e) {
            return -1;
        }
    }

    int typeArg(int ty, int which) {
        if (!isType(ty) || ty < 3 || which < 0 || which > 1) {
            return -1;
        }
        return which == 0 ? types.get(ty).d() : types.get(ty).c();
    }

    int typeCount() {
        return types.size();
    }

    int mkVar(int id, int ty) {
        if (id < 0 || id > 15 || !isType(ty)) {
            return -1;
        }
        return keep(new Term(1, id, ty, null, null), types);
    }

    int mkEq(int a) {
        try {
            need(isType(a));
            List<Fun> table = new ArrayList<>(types);
            internEq(table, a);
            return keep(new Term(2, 0, a, null, null), table);
        } catch (Refused e) {
            return -1;
        }
    }

    int mkComb(int f, int x) {
        try {
            return keep(comb(term(f), term(x)), types);
        } catch (Refused e) {
            return -1;
        }
    }

    int mkAbs(int v, int s) {
        try {
            Term var = variable(v);
            Term body = term(s);
            List<Fun> table = new ArrayList<>(types);
            intern(table, var.q(), typeOf(body));
            return keep(abstraction(var, body), table);
        } catch (Refused e) {
            return -1;
        }
    }

    int termType(int t) {
        return isTerm(t) ? typeOf(terms.get(t)) : -1;
    }

    int termSize(int t) {
        return isTerm(t) ? terms.get(t).size() : -1;
    }

    int termNode(int t, int pos) {
        return isTerm(t) ? nodeOf(terms.get(t), pos) : -1;
    }

    int hypCount(int th) {
        return isThm(th) ? thms.get(th).hyps().size() : -1;
    }

    int thmSize(int th, int part) {
        return isPart(th, part) ? thms.get(th).part(part).size() : -1;
    }

    int thmNode(int th, int part, int pos) {
        return isPart(th, part) ? nodeOf(thms.get(th).part(part), pos) : -1;
    }

    boolean thmPartIs(int th, int part, int t) {
        return isPart(th, part) && isTerm(t) && thms.get(th).part(part).equals(terms.get(t));
    }

    int rule(int kind, int a, int b, int c) {
        try {
            List<Fun> table = new ArrayList<>(types);
            Thm made = apply(kind, a, b, c, table);
            need(made.hyps().size() <= 3 && made.conclusion().size() <= 32);
            for (Term hyp : made.hyps()) {
                need(hyp.size() <= 32);
            }
            need(thms.size() < thmCapacity);
            thms.add(made);
            types = table;
            return thms.size() - 1;
        } catch (Refused e) {
            return -1;
        }
    }

    private Thm apply(int kind, int a, int b, int c, List<Fun> table) throws Refused {
        switch (kind) {
            case 1:
                return new Thm(List.of(), equation(term(a), term(a), table));
            case 2:
                need(right(a).equals(left(b)));
                return new Thm(union(hyps(a), hyps(b)), equation(left(a), right(b), table));
            case 3:
                return new Thm(union(hyps(a), hyps(b)),
                        equation(comb(left(a), left(b)), comb(right(a), right(b)), table));
            case 4:
                return abs(a, variable(b), table);
            case 5:
                need(isRedex(term(a)));
                return new Thm(List.of(), equation(term(a), contract(term(a)), table));
            case 6:
                return new Thm(List.of(), equation(term(a), normal(term(a)), table));
            case 7:
                need(typeOf(term(a)) == 0);
                return new Thm(List.of(term(a)), term(a));
            case 8:
                need(left(a).equals(thm(b).conclusion()));
                return new Thm(union(hyps(a), hyps(b)), right(a));
            case 9:
                Term p = thm(a).conclusion();
                Term q = thm(b).conclusion();
                return new Thm(union(without(hyps(a), q), without(hyps(b), p)),
                        equation(p, q, table));
            case 10:
                return inst(thm(a), variable(b), term(c));
            default:
                throw new Refused();
        }
    }

    private Thm abs(int a, Term var, List<Fun> table) throws Refused {
        for (Term hyp : hyps(a)) {
            need(!occurs(var, hyp));
        }
        Term s = left(a);
        Term t = right(a);
        intern(table, var.q(), typeOf(s));
        return new Thm(hyps(a), equation(abstraction(var, s), abstraction(var, t), table));
    }

    private Thm inst(Thm from, Term var, Term u) throws Refused {
        need(typeOf(u) == var.q());
        List<Term> hyps = new ArrayList<>();
        for (Term hyp : from.hyps()) {
            hyps.add(replace(hyp, var, u));
        }
        return new Thm(union(hyps, List.of()), replace(from.conclusion(), var, u));
    }

    // ---- terms ----

    private Term equation(Term s, Term t, List<Fun> table) throws Refused {
        int a = typeOf(s, table);
        internEq(table, a);
        return new Term(3, 0, 0, new Term(3, 0, 0, new Term(2, 0, a, null, null), s), t);
    }

    private Term comb(Term f, Term x) throws Refused {
        int type = typeOf(f);
        need(type >= 3 && types.get(type).d() == typeOf(x));
        return new Term(3, 0, 0, f, x);
    }

    private static Term abstraction(Term var, Term s) {
        return new Term(4, 0, var.q(), bind(var, s, 0), null);
    }

    private static Term bind(Term var, Term s, int k) {
        if (s == null) {
            return null;
        }
        if (s.equals(var)) {
            return new Term(5, k, var.q(), null, null);
        }
        return new Term(s.kind(), s.p(), s.q(), bind(var, s.l(), s.kind() == 4 ? k + 1 : k),
                bind(var, s.r(), k));
    }

    private static boolean occurs(Term var, Term s) {
        return s != null && (s.equals(var) || occurs(var, s.l()) || occurs(var, s.r()));
    }

    private static Term replace(Term s, Term var, Term u) {
        if (s == null) {
            return null;
        }
        if (s.equals(var)) {
            return u;
        }
        return new Term(s.kind(), s.p(), s.q(), replace(s.l(), var, u), replace(s.r(), var, u));
    }

    static boolean isRedex(Term t) {
        return t.kind() == 3 && t.l().kind() == 4;
    }

    static Term contract(Term redex) {
        return open(redex.l().l(), redex.r(), 0);
    }

    private static Term open(Term s, Term u, int k) {
        if (s == null) {
            return null;
        }
        if (s.kind() == 5 && s.p() == k) {
            return lift(u, k, 0);
        }
        int p = s.kind() == 5 && s.p() > k ? s.p() - 1 : s.p();
        return new Term(s.kind(), p, s.q(), open(s.l(), u, s.kind() == 4 ? k + 1 : k),
                open(s.r(), u, k));
    }

    private static Term lift(Term u, int k, int n) {
        if (u == null) {
            return null;
        }
        int p = u.kind() == 5 && u.p() >= n ? u.p() + k : u.p();
        return new Term(u.kind(), p, u.q(), lift(u.l(), k, u.kind() == 4 ? n + 1 : n),
                lift(u.r(), k, n));
    }

    /** The term with its leftmost redex contracted, or the very same object if it has none. */
    static Term step(Term t) {
        if (t == null) {
            return null;
        }
        if (isRedex(t)) {
            return contract(t);
        }
        Term l = step(t.l());
        if (l != t.l()) {
            return new Term(t.kind(), t.p(), t.q(), l, t.r());
        }
        Term r = step(t.r());
        return r == t.r() ? t : new Term(t.kind(), t.p(), t.q(), l, r);
    }

    private static Term normal(Term t) throws Refused {
        Term now = t;
        for (int n = 0; n <= 64; n++) {
            need(now.size() <= 32);
            Term next = step(now);
            if (next == now) {
                return now;
            }
            now = next;
        }
        throw new Refused();
    }

    private static int nodeOf(Term t, int pos) {
        List<Integer> codes = t.codes();
        return pos < 0 || pos >= codes.size() ? -1 : codes.get(pos);
    }

    // ---- hypotheses ----

    private static List<Term> union(List<Term> a, List<Term> b) {
        List<Term> all = new ArrayList<>();
        for (Term t : a) {
            addOnce(all, t);
        }
        for (Term t : b) {
            addOnce(all, t);
        }
        Collections.sort(all, Model::order);
        return all;
    }

    private static void addOnce(List<Term> all, Term t) {
        if (!all.contains(t)) {
            all.add(t);
        }
    }

    private static List<Term> without(List<Term> list, Term t) {
        List<Term> rest = new ArrayList<>(list);
        rest.remove(t);
        return rest;
    }

    private static int order(Term s, Term t) {
        List<Integer> a = s.codes();
        List<Integer> b = t.codes();
        for (int i = 0; i < Math.min(a.size(), b.size()); i++) {
            int c = Integer.compare(a.get(i), b.get(i));
            if (c != 0) {
                return c;
            }
        }
        return 0;
    }

    // ---- arguments ----

    private boolean isType(int ty) {
        return ty >= 0 && ty < types.size();
    }

    private boolean isTerm(int t) {
        return t >= 0 && t < terms.size();
    }

    private boolean isThm(int th) {
        return th >= 0 && th < thms.size();
    }

    private boolean isPart(int th, int part) {
        return isThm(th) && part >= 0 && part <= thms.get(th).hyps().size();
    }

    private Term term(int t) throws Refused {
        need(isTerm(t));
        return terms.get(t);
    }

    private Term variable(int t) throws Refused {
        need(isTerm(t) && terms.get(t).kind() == 1);
        return terms.get(t);
    }

    private Thm thm(int th) throws Refused {
        need(isThm(th));
        return thms.get(th);
    }

    private List<Term> hyps(int th) throws Refused {
        return thm(th).hyps();
    }

    private Term left(int th) throws Refused {
        Term t = thm(th).conclusion();
        need(t.kind() == 3 && t.l().kind() == 3 && t.l().l().kind() == 2);
        return t.l().r();
    }

    private Term right(int th) throws Refused {
        left(th);
        return thm(th).conclusion().r();
    }

    // ---- keeping ----

    private int keep(Term t, List<Fun> table) {
        if (terms.size() >= termCapacity || t.size() > 32) {
            return -1;
        }
        terms.add(t);
        types = table;
        return terms.size() - 1;
    }

    private static int intern(List<Fun> table, int d, int c) throws Refused {
        Fun fun = new Fun(d, c);
        if (!table.contains(fun)) {
            need(table.size() < 48);
            table.add(fun);
        }
        return table.indexOf(fun);
    }

    private static void internEq(List<Fun> table, int a) throws Refused {
        int test = intern(table, a, 0);
        intern(table, a, test);
    }

    private static void need(boolean holds) throws Refused {
        if (!holds) {
            throw new Refused();
        }
    }
}
