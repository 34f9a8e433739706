import java.util.ArrayList;
import java.util.Collections;
import java.util.HashMap;
import java.util.HashSet;
import java.util.List;
import java.util.Map;
import java.util.Set;
import java.util.TreeSet;
import java.util.function.Function;

/**
 * The document once more, written down as plainly as the Java library allows: types are trees, the
 * program is run by recursion with whole types in hand. RandomRunsTest holds the program against it.
 */
final class PlainHouse {
    /** A run whose types grow too long to be written out as trees is given up by the tests. */
    static final class TooLong extends RuntimeException {
        private static final long serialVersionUID = 1L;
    }

    private static final class OutOfSteps extends RuntimeException {
        private static final long serialVersionUID = 1L;
    }

    interface Type { }

    record Base(int number) implements Type { }

    record Var(int id) implements Type { }

    record Fixed() implements Type { }

    record ListOf(Type of) implements Type { }

    record Arrow(Type from, Type to) implements Type { }

    private record Exp(int kind, int a, int b, int places) { }

    private record Condition(int inClass, Type type) { }

    private record Instance(int context, int[] bodies, Place[] placed) { }

    private record Definition(Place place, int type, List<Integer> conditions) { }

    /** An expression where it stands, with the types put for variables there. */
    private static final class Place {
        private Exp exp;
        private Place first;
        private Place second;
        private List<Type> put = new ArrayList<>();
    }

    private static final class ClassOf {
        private int above;
        private final List<Integer> methods = new ArrayList<>();
        private final Instance[] instances = new Instance[3];
    }

    private final List<Type> types = new ArrayList<>();
    private final List<ClassOf> classes = new ArrayList<>();
    private final List<Exp> exps = new ArrayList<>();
    private final List<Definition> definitions = new ArrayList<>();
    private List<Integer> latest;

    PlainHouse() {
        types.add(new Base(0));
        types.add(new Base(1));
        for (int v = 0; v < 8; v++) {
            types.add(new Var(v));
        }
    }

    // ---------------------------------------------------------------- what is made

    private static void argument(boolean holds) {
        if (!holds) {
            throw new IllegalArgumentException();
        }
    }

    private static void state(boolean holds) {
        if (!holds) {
            throw new IllegalStateException();
        }
    }

    private static boolean within(int i, List<?> all) {
        return i >= 0 && i < all.size();
    }

    private int numberOf(Type t) {
        if (!types.contains(t)) {
            state(types.size() < 40);
            types.add(t);
        }
        return types.indexOf(t);
    }

    int list(int t) {
        argument(within(t, types));
        return numberOf(new ListOf(types.get(t)));
    }

    int function(int t, int u) {
        argument(within(t, types) && within(u, types));
        return numberOf(new Arrow(types.get(t), types.get(u)));
    }

    int type(int above) {
        argument(above == -1 || within(above, classes));
        state(classes.size() < 6);
        ClassOf c = new ClassOf();
        c.above = above;
        classes.add(c);
        return classes.size() - 1;
    }

    int method(int c, int t) {
        argument(within(c, classes) && within(t, types));
        List<Integer> order = new ArrayList<>();
        variables(types.get(t), order);
        argument(order.equals(List.of(0)));
        ClassOf of = classes.get(c);
        state(of.methods.size() < 3);
        for (Instance i : of.instances) {
            state(i == null);
        }
        of.methods.add(t);
        return of.methods.size() - 1;
    }

    private int add(int kind, int a, int b, int places) {
        state(exps.size() < 200 && places <= 60);
        exps.add(new Exp(kind, a, b, places));
        return exps.size() - 1;
    }

    int number(int v) {
        return add(0, v, 0, 1);
    }

    int primitive(int k) {
        argument(k >= 0 && k <= 7);
        return add(1, k, 0, 1);
    }

    int local(int k) {
        argument(k >= 0 && k <= 9);
        return add(2, k, 0, 1);
    }

    int lambda(int body) {
        argument(within(body, exps));
        return add(3, body, 0, 1 + exps.get(body).places());
    }

    int apply(int f, int x) {
        argument(within(f, exps) && within(x, exps));
        return add(4, f, x, 1 + exps.get(f).places() + exps.get(x).places());
    }

    int use(int c, int m) {
        argument(within(c, classes) && within(m, classes.get(c).methods));
        return add(5, c, m, 1);
    }

    int given(int g) {
        argument(within(g, definitions));
        return add(6, g, 0, 1);
    }

    // ---------------------------------------------------------------- typing

    private final Map<Integer, Type> bound = new HashMap<>();
    private final List<Condition> conditions = new ArrayList<>();
    private final Map<Integer, Type> free = new HashMap<>();
    private boolean openAllowed;
    private int nextVariable;
    private int effort;

    private static final class NoType extends RuntimeException {
        private static final long serialVersionUID = 1L;
    }

    private void begin() {
        bound.clear();
        conditions.clear();
        free.clear();
        nextVariable = 1000;
        effort = 0;
    }

    private void work() {
        effort++;
        if (effort > 300_000) {
            throw new TooLong();
        }
    }

    private Type fresh() {
        nextVariable++;
        return new Var(nextVariable);
    }

    private Type now(Type t) {
        Type at = t;
        while (at instanceof Var v && bound.containsKey(v.id())) {
            at = bound.get(v.id());
        }
        return at;
    }

    private Type whole(Type t) {
        work();
        Type at = now(t);
        if (at instanceof ListOf l) {
            return new ListOf(whole(l.of()));
        }
        if (at instanceof Arrow f) {
            return new Arrow(whole(f.from()), whole(f.to()));
        }
        return at;
    }

    private boolean stands(Var v, Type t) {
        work();
        Type at = now(t);
        if (at instanceof ListOf l) {
            return stands(v, l.of());
        }
        if (at instanceof Arrow f) {
            return stands(v, f.from()) || stands(v, f.to());
        }
        return at.equals(v);
    }

    private void unify(Type s, Type t) {
        work();
        Type a = now(s);
        Type b = now(t);
        if (a instanceof Var v) {
            if (!a.equals(b)) {
                if (stands(v, b)) {
                    throw new NoType();
                }
                bound.put(v.id(), b);
            }
        } else if (b instanceof Var) {
            unify(b, a);
        } else if (a instanceof ListOf l && b instanceof ListOf m) {
            unify(l.of(), m.of());
        } else if (a instanceof Arrow f && b instanceof Arrow g) {
            unify(f.from(), g.from());
            unify(f.to(), g.to());
        } else if (!a.equals(b)) {
            throw new NoType();
        }
    }

    private static Type put(Type t, Map<Integer, Type> types) {
        if (t instanceof Var v) {
            return types.getOrDefault(v.id(), t);
        }
        if (t instanceof ListOf l) {
            return new ListOf(put(l.of(), types));
        }
        return t instanceof Arrow f ? new Arrow(put(f.from(), types), put(f.to(), types)) : t;
    }

    private static void variables(Type t, List<Integer> order) {
        if (t instanceof Var v && !order.contains(v.id())) {
            order.add(v.id());
        } else if (t instanceof ListOf l) {
            variables(l.of(), order);
        } else if (t instanceof Arrow f) {
            variables(f.from(), order);
            variables(f.to(), order);
        }
    }

    private static Type arrows(Type... all) {
        Type t = all[all.length - 1];
        for (int i = all.length - 2; i >= 0; i--) {
            t = new Arrow(all[i], t);
        }
        return t;
    }

    private Type primitiveType(int k) {
        Type i = new Base(0);
        Type b = new Base(1);
        Type x = fresh();
        Type y = fresh();
        return switch (k) {
            case 0, 1 -> b;
            case 2 -> arrows(i, i, i);
            case 3 -> arrows(i, i, b);
            case 4 -> arrows(b, x, x, x);
            case 5 -> new ListOf(x);
            case 6 -> arrows(x, new ListOf(x), new ListOf(x));
            default -> arrows(arrows(x, y, y), y, new ListOf(x), y);
        };
    }

    private Type infer(int e, List<Type> around, Place place) {
        Exp exp = exps.get(e);
        place.exp = exp;
        switch (exp.kind()) {
            case 0:
                return new Base(0);
            case 1:
                return primitiveType(exp.a());
            case 2:
                return localType(exp.a(), around);
            case 3: {
                place.first = new Place();
                List<Type> inside = new ArrayList<>(around);
                Type argument = fresh();
                inside.add(0, argument);
                return new Arrow(argument, infer(exp.a(), inside, place.first));
            }
            case 4: {
                place.first = new Place();
                place.second = new Place();
                Type f = infer(exp.a(), around, place.first);
                Type x = infer(exp.b(), around, place.second);
                Type result = fresh();
                unify(f, new Arrow(x, result));
                return result;
            }
            case 5: {
                Type a = fresh();
                place.put.add(a);
                conditions.add(new Condition(exp.a(), a));
                return put(types.get(classes.get(exp.a()).methods.get(exp.b())), Map.of(0, a));
            }
            default:
                return givenType(definitions.get(exp.a()), place);
        }
    }

    private Type localType(int k, List<Type> around) {
        if (k < around.size()) {
            return around.get(k);
        }
        if (!openAllowed) {
            throw new NoType();
        }
        return free.computeIfAbsent(k - around.size(), i -> fresh());
    }

    private Type givenType(Definition g, Place place) {
        Map<Integer, Type> filled = new HashMap<>();
        List<Integer> order = new ArrayList<>();
        variables(types.get(g.type()), order);
        for (int v : order) {
            filled.put(v, fresh());
            place.put.add(filled.get(v));
        }
        for (int c : g.conditions()) {
            conditions.add(new Condition(c / 8, filled.get(c % 8)));
        }
        return put(types.get(g.type()), filled);
    }

    private boolean reaches(int lower, int upper) {
        return lower != -1 && (lower == upper || reaches(classes.get(lower).above, upper));
    }

    private void finishPlace(Place place, Map<Integer, Type> names) {
        List<Type> all = new ArrayList<>();
        for (Type t : place.put) {
            all.add(put(whole(t), names));
        }
        place.put = all;
        if (place.first != null) {
            finishPlace(place.first, names);
        }
        if (place.second != null) {
            finishPlace(place.second, names);
        }
    }

    /** Whether an application has a type when locals without a lambda may have any. */
    boolean couldBeApplied(int f, int x) {
        if (!within(f, exps) || !within(x, exps)) {
            return true;
        }
        begin();
        openAllowed = true;
        try {
            Type of = infer(x, List.of(), new Place());
            unify(infer(f, List.of(), new Place()), new Arrow(of, fresh()));
            return true;
        } catch (NoType wrong) {
            return false;
        } finally {
            openAllowed = false;
        }
    }

    /** Helps the tests to choose: of ten kinds of luck, some take anything, most only what is larger. */
    boolean isWorthDefining(int e, int luck) {
        if (!within(e, exps) || luck == 0) {
            return true;
        }
        if (exps.get(e).places() < luck) {
            return false;
        }
        begin();
        try {
            infer(e, List.of(), new Place());
            return true;
        } catch (NoType wrong) {
            return luck == 1;
        }
    }

    int typeCount() {
        return types.size();
    }

    Type typeNumbered(int t) {
        return types.get(t);
    }

    /** The remaining conditions; sets what is wrong in flags: 0 of -2, 1 far. */
    private List<Condition> reduced(boolean[] flags) {
        List<Condition> remain = new ArrayList<>();
        for (Condition condition : conditions) {
            int c = condition.inClass();
            Type t = whole(condition.type());
            int lists = 0;
            boolean settled = false;
            while (t instanceof ListOf l && !settled) {
                Instance i = classes.get(c).instances[2];
                settled = i == null || i.context() == -1;
                flags[0] |= i == null;
                if (!settled) {
                    c = i.context();
                    t = l.of();
                    lists++;
                }
            }
            flags[1] |= lists > 3;
            if (t instanceof Arrow) {
                flags[0] = true;
            } else if (t instanceof Base b) {
                flags[0] |= classes.get(c).instances[b.number()] == null;
            } else if (!settled) {
                remain.add(new Condition(c, t));
            }
        }
        return remain;
    }

    int define(int e) {
        argument(within(e, exps));
        state(definitions.size() < 20);
        begin();
        Place place = new Place();
        Type type;
        try {
            type = whole(infer(e, List.of(), place));
        } catch (NoType wrong) {
            return -1;
        }
        boolean[] flags = new boolean[2];
        List<Condition> remain = reduced(flags);
        if (flags[0]) {
            return -2;
        }
        List<Integer> order = new ArrayList<>();
        variables(type, order);
        Set<Integer> said = new HashSet<>();
        for (Condition condition : remain) {
            int v = order.indexOf(((Var) condition.type()).id());
            if (v == -1) {
                return -3;
            }
            said.add(v * 6 + condition.inClass());
        }
        Set<Integer> kept = new TreeSet<>();
        for (int one : said) {
            boolean covered = false;
            for (int other : said) {
                covered |= other != one && other / 6 == one / 6 && reaches(other % 6, one % 6);
            }
            if (!covered) {
                kept.add(one);
            }
        }
        if (order.size() > 8 || kept.size() > 8 || flags[1]) {
            return -4;
        }
        Map<Integer, Type> names = new HashMap<>();
        for (int v = 0; v < order.size(); v++) {
            names.put(order.get(v), new Var(v));
        }
        int before = types.size();
        int number = makeNumber(put(type, names));
        if (types.size() > 40) {
            types.subList(before, types.size()).clear();
            return -4;
        }
        List<Integer> answers = new ArrayList<>();
        for (int one : kept) {
            answers.add(8 * (one % 6) + one / 6);
        }
        finishPlace(place, names);
        definitions.add(new Definition(place, number, answers));
        return definitions.size() - 1;
    }

    private int makeNumber(Type t) {
        if (t instanceof ListOf l) {
            makeNumber(l.of());
        } else if (t instanceof Arrow f) {
            makeNumber(f.from());
            makeNumber(f.to());
        }
        if (!types.contains(t)) {
            types.add(t);
        }
        return types.indexOf(t);
    }

    // ---------------------------------------------------------------- instances

    int instance(int c, int shape, int context, int m0, int m1, int m2) {
        argument(within(c, classes) && shape >= 0 && shape <= 2);
        argument(context == -1 || shape == 2 && within(context, classes));
        ClassOf of = classes.get(c);
        int[] bodies = {m0, m1, m2};
        for (int m = 0; m < of.methods.size(); m++) {
            argument(within(bodies[m], exps));
        }
        state(of.instances[shape] == null);
        if (of.above != -1) {
            Instance upper = classes.get(of.above).instances[shape];
            if (upper == null || upper.context() != -1 && !reaches(context, upper.context())) {
                return -5;
            }
        }
        of.instances[shape] = new Instance(context, bodies, new Place[3]);
        for (int m = 0; m < of.methods.size(); m++) {
            int wrong = wrongOfMethod(c, shape, m, bodies[m], of.instances[shape].placed());
            if (wrong != 0) {
                of.instances[shape] = null;
                return wrong;
            }
        }
        return 0;
    }

    /** Whether an expression would do for a method, as far as its type goes. */
    boolean couldBeMethod(int c, int shape, int m, int e) {
        begin();
        try {
            Type due = put(types.get(classes.get(c).methods.get(m)), Map.of(0, forWhat(shape)));
            unify(infer(e, List.of(), new Place()), due);
            return true;
        } catch (NoType wrong) {
            return false;
        }
    }

    private static Type forWhat(int shape) {
        return shape == 2 ? new ListOf(new Fixed()) : new Base(shape);
    }

    private int wrongOfMethod(int c, int shape, int m, int e, Place[] placed) {
        begin();
        Place place = new Place();
        try {
            Type due = put(types.get(classes.get(c).methods.get(m)), Map.of(0, forWhat(shape)));
            unify(infer(e, List.of(), place), due);
        } catch (NoType wrong) {
            return -1;
        }
        boolean[] flags = new boolean[2];
        List<Condition> remain = reduced(flags);
        if (flags[0]) {
            return -2;
        }
        int context = classes.get(c).instances[shape].context();
        for (Condition condition : remain) {
            if (condition.type() instanceof Var || !reaches(context, condition.inClass())) {
                return -3;
            }
        }
        if (flags[1]) {
            return -4;
        }
        finishPlace(place, Map.of());
        placed[m] = place;
        return 0;
    }

    // ---------------------------------------------------------------- answers

    int scheme(int g, int what) {
        argument(within(g, definitions));
        Definition d = definitions.get(g);
        argument(what >= 0 && what < 2 + d.conditions().size());
        if (what == 0) {
            return d.type();
        }
        return what == 1 ? d.conditions().size() : d.conditions().get(what - 2);
    }

    boolean is(int c, int t) {
        argument(within(c, classes) && within(t, types));
        return isIn(c, types.get(t));
    }

    private boolean isIn(int c, Type t) {
        Instance[] instances = classes.get(c).instances;
        if (t instanceof Base b) {
            return instances[b.number()] != null;
        }
        if (t instanceof ListOf l && instances[2] != null) {
            return instances[2].context() == -1 || isIn(instances[2].context(), l.of());
        }
        return false;
    }

    // ---------------------------------------------------------------- running

    private int steps;
    private int limit;

    int run(int g, int most) {
        argument(within(g, definitions) && most >= 1 && most <= 300);
        Definition d = definitions.get(g);
        Type t = types.get(d.type());
        state(d.conditions().isEmpty());
        state(t instanceof Base || t instanceof ListOf l && l.of() instanceof Base);
        steps = 0;
        limit = most;
        Object value;
        try {
            value = evaluate(d.place(), Collections.emptyList(), Map.of());
        } catch (OutOfSteps wrong) {
            return -1;
        }
        latest = new ArrayList<>();
        if (value instanceof List<?> all) {
            for (Object one : all) {
                latest.add(shown(one));
            }
        } else {
            latest.add(shown(value));
        }
        return steps;
    }

    private static int shown(Object value) {
        return value instanceof Boolean b ? (b ? 1 : 0) : (Integer) value;
    }

    int value(int what) {
        argument(latest != null && (what == -1 || within(what, latest)));
        return what == -1 ? latest.size() : latest.get(what);
    }

    private void step() {
        if (steps == limit) {
            throw new OutOfSteps();
        }
        steps++;
    }

    private Object evaluate(Place place, List<Object> around, Map<Integer, Type> put) {
        step();
        Exp exp = place.exp;
        switch (exp.kind()) {
            case 0:
                return exp.a();
            case 1:
                return primitiveValue(exp.a());
            case 2:
                return around.get(exp.a());
            case 3: {
                Function<Object, Object> f = x -> {
                    List<Object> inside = new ArrayList<>(around);
                    inside.add(0, x);
                    return evaluate(place.first, inside, put);
                };
                return f;
            }
            case 4: {
                Object f = evaluate(place.first, around, put);
                return call(f, evaluate(place.second, around, put));
            }
            case 5:
                return evaluateUse(exp, put(place.put.get(0), put));
            default: {
                Map<Integer, Type> inside = new HashMap<>();
                for (int v = 0; v < place.put.size(); v++) {
                    inside.put(v, put(place.put.get(v), put));
                }
                return evaluate(definitions.get(exp.a()).place(), Collections.emptyList(), inside);
            }
        }
    }

    private Object evaluateUse(Exp exp, Type t) {
        Instance[] instances = classes.get(exp.a()).instances;
        if (t instanceof ListOf l) {
            Place place = fixedNamed(instances[2].placed()[exp.b()]);
            return evaluate(place, Collections.emptyList(), Map.of(0, l.of()));
        }
        int shape = ((Base) t).number();
        return evaluate(instances[shape].placed()[exp.b()], Collections.emptyList(), Map.of());
    }

    /** The same place with the fixed variable as the first one, so that a type can be put for it. */
    private static Place fixedNamed(Place place) {
        if (place == null) {
            return null;
        }
        Place named = new Place();
        named.exp = place.exp;
        named.first = fixedNamed(place.first);
        named.second = fixedNamed(place.second);
        for (Type t : place.put) {
            named.put.add(unfixed(t));
        }
        return named;
    }

    private static Type unfixed(Type t) {
        if (t instanceof Fixed) {
            return new Var(0);
        }
        if (t instanceof ListOf l) {
            return new ListOf(unfixed(l.of()));
        }
        return t instanceof Arrow f ? new Arrow(unfixed(f.from()), unfixed(f.to())) : t;
    }

    @SuppressWarnings("unchecked")
    private static Object call(Object f, Object x) {
        return ((Function<Object, Object>) f).apply(x);
    }

    private static Function<Object, Object> of(Function<Object, Object> f) {
        return f;
    }

    private Object primitiveValue(int k) {
        return switch (k) {
            case 0 -> true;
            case 1 -> false;
            case 2 -> of(x -> of(y -> (Integer) x + (Integer) y));
            case 3 -> of(x -> of(y -> (Integer) x < (Integer) y));
            case 4 -> of(x -> of(y -> of(z -> (Boolean) x ? y : z)));
            case 5 -> Collections.emptyList();
            case 6 -> of(x -> of(y -> {
                List<Object> all = new ArrayList<>((List<?>) y);
                all.add(0, x);
                return all;
            }));
            default -> of(f -> of(z -> of(l -> {
                List<?> all = (List<?>) l;
                Object soFar = z;
                for (int i = all.size() - 1; i >= 0; i--) {
                    step();
                    soFar = call(call(f, all.get(i)), soFar);
                }
                return soFar;
            })));
        };
    }
}
