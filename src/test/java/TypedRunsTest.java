import java.util.ArrayList;
import java.util.HashMap;
import java.util.List;
import java.util.Map;
import java.util.Random;

/**
 * Promises 11 to 18 on larger programs: expressions are grown for a type that they shall have, so
 * that instances are right, definitions have conditions, and runs pass types through given ones,
 * contexts and folds. Every answer is held against PlainHouse.
 */
public final class TypedRunsTest implements SideBySide.Play {
    private static final int RUNS = 1500;
    private static final PlainHouse.Type INT = new PlainHouse.Base(0);
    private static final PlainHouse.Type BOOL = new PlainHouse.Base(1);
    private static final PlainHouse.Type A = new PlainHouse.Var(0);
    /** The variable of an instance or definition that is being grown. */
    private static final PlainHouse.Type SOME = new PlainHouse.Fixed();

    private record Method(int c, int m, PlainHouse.Type type) { }

    private final SideBySide sides;
    private final Random random;
    private final List<Method> methods = new ArrayList<>();
    private final List<PlainHouse.Type> definitions = new ArrayList<>();
    private int classes;
    private int expressions;

    private TypedRunsTest(long seed, SideBySide sides) {
        random = new Random(seed);
        this.sides = sides;
    }

    public static void main(String[] args) {
        new SideBySide.Series() {
            @Override
            SideBySide.Play newPlay(long seed, SideBySide sides) {
                return new TypedRunsTest(seed, sides);
            }
        }.playAll(args, RUNS);
    }

    @Override
    public void play() {
        makeClasses();
        for (int c = 0; c < classes; c++) {
            makeInstances(c);
        }
        while (expressions < 185 && sides.callCount() < 480 && definitions.size() < 20 && !sides.hasFailed()) {
            makeDefinition();
        }
        for (int g = 0; g < definitions.size() && sides.callCount() < 500; g++) {
            sides.run(g, 1 + random.nextInt(60));
        }
    }

    // ---------------------------------------------------------------- classes

    private void makeClasses() {
        PlainHouse.Type[] usual = {A, arrows(A, BOOL), arrows(A, A, BOOL), arrows(A, A), arrows(A, A, A),
            arrows(A, INT), arrows(INT, A), arrows(listOf(A), A), arrows(A, listOf(A)),
            arrows(arrows(A, A), A, A)};
        int many = 1 + random.nextInt(3);
        for (int i = 0; i < many; i++) {
            classes = 1 + number(sides.type(i > 0 && random.nextBoolean() ? random.nextInt(i) : -1));
            int own = random.nextInt(3);
            for (int j = 0; j < own; j++) {
                PlainHouse.Type type = usual[random.nextInt(usual.length)];
                int m = number(sides.method(i, typeNumber(type)));
                methods.add(new Method(i, m, type));
            }
        }
    }

    private int typeNumber(PlainHouse.Type t) {
        if (t instanceof PlainHouse.ListOf l) {
            return number(sides.list(typeNumber(l.of())));
        }
        if (t instanceof PlainHouse.Arrow f) {
            int from = typeNumber(f.from());
            return number(sides.function(from, typeNumber(f.to())));
        }
        return t instanceof PlainHouse.Base b ? b.number() : 2;
    }

    private void makeInstances(int c) {
        for (int shape = 0; shape < 3; shape++) {
            for (int tries = 0; tries < 2 && expressions < 80; tries++) {
                int way = random.nextInt(4);
                int context = shape < 2 || way == 0 ? -1 : way == 1 ? random.nextInt(classes) : c;
                PlainHouse.Type forWhat = shape == 0 ? INT : shape == 1 ? BOOL : listOf(SOME);
                int[] bodies = new int[3];
                for (Method method : methods) {
                    if (method.c() == c) {
                        bodies[method.m()] = grow(put(method.type(), forWhat), new ArrayList<>(), 2);
                    }
                }
                if (number(sides.instance(c, shape, context, bodies)) == 0) {
                    break;
                }
            }
        }
    }

    private void makeDefinition() {
        PlainHouse.Type[] usual = {INT, INT, INT, BOOL, BOOL, listOf(INT), listOf(INT), listOf(BOOL),
            arrows(SOME, INT), arrows(SOME, SOME), arrows(SOME, listOf(SOME)), arrows(SOME, SOME, BOOL),
            arrows(listOf(SOME), BOOL), arrows(INT, SOME)};
        PlainHouse.Type type = usual[random.nextInt(usual.length)];
        int e = grow(type, new ArrayList<>(), 1 + random.nextInt(4));
        int g = number(sides.define(e));
        if (g >= 0) {
            definitions.add(sides.plain().typeNumbered(number(sides.scheme(g, 0))));
            sides.run(g, 300);
        }
    }

    // ---------------------------------------------------------------- growing

    private static int number(String answer) {
        return SideBySide.numberIn(answer, -9);
    }

    private static PlainHouse.Type listOf(PlainHouse.Type t) {
        return new PlainHouse.ListOf(t);
    }

    private static PlainHouse.Type arrows(PlainHouse.Type... all) {
        PlainHouse.Type t = all[all.length - 1];
        for (int i = all.length - 2; i >= 0; i--) {
            t = new PlainHouse.Arrow(all[i], t);
        }
        return t;
    }

    private static PlainHouse.Type put(PlainHouse.Type t, PlainHouse.Type forA) {
        return put(t, Map.of(0, forA));
    }

    private static PlainHouse.Type put(PlainHouse.Type t, Map<Integer, PlainHouse.Type> types) {
        if (t instanceof PlainHouse.Var v) {
            return types.getOrDefault(v.id(), INT);
        }
        if (t instanceof PlainHouse.ListOf l) {
            return listOf(put(l.of(), types));
        }
        return t instanceof PlainHouse.Arrow f ? arrows(put(f.from(), types), put(f.to(), types)) : t;
    }

    private int kept(String answer) {
        int e = number(answer);
        expressions = Math.max(expressions, e + 1);
        return Math.max(0, e);
    }

    private int call(int f, int... xs) {
        int e = f;
        for (int x : xs) {
            e = kept(sides.apply(e, x));
        }
        return e;
    }

    private PlainHouse.Type smallType() {
        PlainHouse.Type[] usual = {INT, INT, BOOL, SOME, listOf(INT), listOf(SOME), listOf(listOf(BOOL))};
        return usual[random.nextInt(usual.length)];
    }

    private int grow(PlainHouse.Type t, List<PlainHouse.Type> around, int fuel) {
        if (fuel <= 0 || expressions > 180) {
            return leaf(t, around);
        }
        int less = fuel - 1 - random.nextInt(2);
        switch (random.nextInt(9)) {
            case 0:
                return growChoice(t, around, less);
            case 1: {
                PlainHouse.Type of = smallType();
                int f = kept(sides.lambda(kept(sides.lambda(grow(t, with(t, with(of, around)), less)))));
                return call(kept(sides.primitive(7)), f, grow(t, around, less), grow(listOf(of), around, less));
            }
            case 2: {
                PlainHouse.Type of = smallType();
                int f = kept(sides.lambda(grow(t, with(of, around), less)));
                return call(f, grow(of, around, less));
            }
            case 3, 4, 5:
                return growFromMethod(t, around, less);
            case 6, 7:
                return growFromDefinition(t, around, less);
            default:
                return growByShape(t, around, less);
        }
    }

    private int growChoice(PlainHouse.Type t, List<PlainHouse.Type> around, int less) {
        int test = grow(BOOL, around, less);
        int first = grow(t, around, less);
        return call(kept(sides.primitive(4)), test, first, grow(t, around, less));
    }

    private static List<PlainHouse.Type> with(PlainHouse.Type t, List<PlainHouse.Type> around) {
        List<PlainHouse.Type> inside = new ArrayList<>(around);
        inside.add(0, t);
        return inside;
    }

    private int growByShape(PlainHouse.Type t, List<PlainHouse.Type> around, int less) {
        if (t instanceof PlainHouse.Arrow f) {
            return kept(sides.lambda(grow(f.to(), with(f.from(), around), less)));
        }
        if (t instanceof PlainHouse.ListOf l) {
            return call(kept(sides.primitive(6)), grow(l.of(), around, less), grow(t, around, less));
        }
        if (t.equals(SOME)) {
            return leaf(t, around);
        }
        int k = t.equals(INT) ? 2 : 3;
        return call(kept(sides.primitive(k)), grow(INT, around, less), grow(INT, around, less));
    }

    private int growFromMethod(PlainHouse.Type t, List<PlainHouse.Type> around, int less) {
        for (int tries = 0; tries < 8 && !methods.isEmpty(); tries++) {
            Method method = methods.get(random.nextInt(methods.size()));
            PlainHouse.Type at = put(method.type(), random.nextInt(3) == 0 ? t : smallType());
            if (givesBack(at, t)) {
                return supply(kept(sides.use(method.c(), method.m())), at, t, around, less);
            }
        }
        return growByShape(t, around, less);
    }

    private int growFromDefinition(PlainHouse.Type t, List<PlainHouse.Type> around, int less) {
        for (int tries = 0; tries < 8 && !definitions.isEmpty(); tries++) {
            int g = random.nextInt(definitions.size());
            Map<Integer, PlainHouse.Type> filled = new HashMap<>();
            for (int v = 0; v < 8; v++) {
                filled.put(v, random.nextInt(3) == 0 ? t : smallType());
            }
            PlainHouse.Type at = put(definitions.get(g), filled);
            if (givesBack(at, t)) {
                return supply(kept(sides.given(g)), at, t, around, less);
            }
        }
        return growByShape(t, around, less);
    }

    /** Whether t comes of it, with some arguments or none. */
    private static boolean givesBack(PlainHouse.Type at, PlainHouse.Type t) {
        return at.equals(t) || at instanceof PlainHouse.Arrow f && givesBack(f.to(), t);
    }

    private int supply(int e, PlainHouse.Type at, PlainHouse.Type t, List<PlainHouse.Type> around, int less) {
        if (!at.equals(t) && at instanceof PlainHouse.Arrow f) {
            return supply(call(e, grow(f.from(), around, less)), f.to(), t, around, less);
        }
        return e;
    }

    /** For want of anything better, one that has the type itself, or a number that has it not. */
    private int anyMethodFor(PlainHouse.Type t) {
        for (Method method : methods) {
            if (method.type().equals(A) || put(method.type(), t).equals(t)) {
                return kept(sides.use(method.c(), method.m()));
            }
        }
        return kept(sides.number(0));
    }

    private int leaf(PlainHouse.Type t, List<PlainHouse.Type> around) {
        for (int k = 0; k < around.size() && k < 10; k++) {
            if (around.get(k).equals(t) && random.nextInt(4) > 0) {
                return kept(sides.local(k));
            }
        }
        if (t instanceof PlainHouse.Arrow f) {
            return kept(sides.lambda(leaf(f.to(), with(f.from(), around))));
        }
        if (t instanceof PlainHouse.ListOf l) {
            int e = kept(sides.primitive(5));
            for (int many = random.nextInt(4); many > 0; many--) {
                e = call(kept(sides.primitive(6)), leaf(l.of(), around), e);
            }
            return e;
        }
        if (t.equals(BOOL)) {
            return kept(sides.primitive(random.nextInt(2)));
        }
        if (t.equals(INT)) {
            return kept(sides.number(random.nextInt(9) - 2));
        }
        int k = around.indexOf(t);
        return k >= 0 && k < 10 ? kept(sides.local(k)) : anyMethodFor(t);
    }
}
