import java.util.ArrayList;
import java.util.Arrays;
import java.util.HashMap;
import java.util.List;
import java.util.Map;

/**
 * The reading that the document gives: BOOL, A and B are {0,1}, function types are all functions.
 * Every theorem must be true for every choice of values for its free variables; a few choices are
 * tried for each. A value is an Integer, or a list with the result for each argument in turn.
 */
final class Truth {
    private static final int LARGEST_TYPE = 256;
    private static final int CHOICES = 6;

    private long seed = 12345;
    private int tried;
    private Model model;
    private final Map<Integer, List<Object>> domains = new HashMap<>();

    int tried() {
        return tried;
    }

    void check(int run, Model of) {
        model = of;
        domains.clear();
        for (int th = 0; th < model.thms.size(); th++) {
            Model.Thm thm = model.thms.get(th);
            if (isSmall(thm.conclusion()) && thm.hyps().stream().allMatch(this::isSmall)) {
                for (int choice = 0; choice < CHOICES; choice++) {
                    check("run " + run + ", theorem " + th + " " + thm, thm);
                }
            }
        }
    }

    private void check(String what, Model.Thm thm) {
        tried++;
        Map<Model.Term, Object> values = new HashMap<>();
        for (Model.Term hyp : thm.hyps()) {
            if (value(hyp, values, new ArrayList<>()).equals(0)) {
                return;
            }
        }
        Due.same(what, value(thm.conclusion(), values, new ArrayList<>()), 1);
    }

    private int pick(int below) {
        seed = seed * 6364136223846793005L + 1442695040888963407L;
        return (int) ((seed >>> 33) % below);
    }

    private double count(int type) {
        return type < 3 ? 2 : Math.pow(count(model.type(type).c()), count(model.type(type).d()));
    }

    /** Whether every type in the term is small enough to go through all its values. */
    private boolean isSmall(Model.Term t) {
        if (t == null) {
            return true;
        }
        return (t.kind() == 3 || count(t.q()) <= LARGEST_TYPE) && isSmall(t.l()) && isSmall(t.r());
    }

    private Object value(Model.Term t, Map<Model.Term, Object> free, List<Object> bound) {
        switch (t.kind()) {
            case 1:
                return free.computeIfAbsent(t, v -> any(v.q()));
            case 2:
                return equality(t.q());
            case 3:
                if (t.l().kind() == 3 && t.l().l().kind() == 2) {
                    // Not another meaning, only a shorter way: the table of EQ can be large.
                    return value(t.l().r(), free, bound).equals(value(t.r(), free, bound)) ? 1 : 0;
                }
                return applied(t, free, bound);
            case 4:
                List<Object> results = new ArrayList<>();
                for (Object arg : domain(t.q())) {
                    List<Object> inner = new ArrayList<>(bound);
                    inner.add(0, arg);
                    results.add(value(t.l(), free, inner));
                }
                return results;
            default:
                return bound.get(t.p());
        }
    }

    private Object applied(Model.Term t, Map<Model.Term, Object> free, List<Object> bound) {
        List<?> table = (List<?>) value(t.l(), free, bound);
        List<Object> arguments = domain(model.typeOf(t.r()));
        return table.get(arguments.indexOf(value(t.r(), free, bound)));
    }

    private Object equality(int type) {
        List<Object> domain = domain(type);
        List<Object> table = new ArrayList<>();
        for (Object s : domain) {
            List<Object> row = new ArrayList<>();
            for (Object t : domain) {
                row.add(s.equals(t) ? 1 : 0);
            }
            table.add(row);
        }
        return table;
    }

    private Object any(int type) {
        if (type < 3) {
            return pick(2);
        }
        Object[] results = new Object[domain(model.type(type).d()).size()];
        Arrays.setAll(results, i -> any(model.type(type).c()));
        return Arrays.asList(results);
    }

    private List<Object> domain(int type) {
        List<Object> known = domains.get(type);
        if (known == null) {
            known = type < 3 ? List.of(0, 1)
                    : functions(domain(model.type(type).d()).size(), domain(model.type(type).c()));
            domains.put(type, known);
        }
        return known;
    }

    private static List<Object> functions(int arguments, List<Object> results) {
        List<Object> all = new ArrayList<>();
        all.add(List.of());
        for (int i = 0; i < arguments; i++) {
            List<Object> longer = new ArrayList<>();
            for (Object f : all) {
                for (Object result : results) {
                    List<Object> g = new ArrayList<>((List<?>) f);
                    g.add(result);
                    longer.add(g);
                }
            }
            all = longer;
        }
        return all;
    }
}
