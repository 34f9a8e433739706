import java.util.Random;

/**
 * Promises 13 to 17 where conditions decide: up to six classes above one another, each with one
 * method from a to BOOL, instances with any contexts, and uses at lists in lists of numbers, truth
 * values, functions, arguments, or of nothing. Every answer is held against PlainHouse.
 */
public final class ConditionRunsTest implements SideBySide.Play {
    private static final int RUNS = 2000;
    private static final int TRUE = 0;
    private static final int IF = 4;
    private static final int NIL = 5;
    private static final int CONS = 6;
    private static final int FOLD = 7;
    private static final int LISTS = 2;
    private static final int MOST_CALLS = 400;
    /** Of 200 expressions. */
    private static final int ENOUGH = 190;

    private final SideBySide sides;
    private final Random random;
    private final int[] primitives = new int[8];
    private final int[] locals = new int[4];
    private int classes;
    private int definitions;
    private int latest;

    private ConditionRunsTest(long seed, SideBySide sides) {
        random = new Random(seed);
        this.sides = sides;
    }

    public static void main(String[] args) {
        new SideBySide.Series() {
            @Override
            SideBySide.Play newPlay(long seed, SideBySide sides) {
                return new ConditionRunsTest(seed, sides);
            }
        }.playAll(args, RUNS);
    }

    @Override
    public void play() {
        makeLeaves();
        int test = number(sides.function(2, 1));
        int many = 1 + random.nextInt(6);
        for (int c = 0; c < many; c++) {
            classes = 1 + number(sides.type(c > 0 && random.nextInt(3) > 0 ? random.nextInt(c) : -1));
            sides.method(c, test);
        }
        for (int c = 0; c < classes; c++) {
            for (int tries = 0; tries < 5; tries++) {
                // Mostly those above first, for without them there is none below.
                makeInstance(random.nextInt(5) == 0 ? random.nextInt(classes) : c, Math.min(LISTS, tries));
            }
        }
        while (sides.callCount() < MOST_CALLS && latest < ENOUGH && definitions < 20 && !sides.hasFailed()) {
            makeDefinition();
        }
        askAllTowers();
    }

    /** Made once and used again, for there are 200 expressions and no more. */
    private void makeLeaves() {
        for (int k = 0; k < primitives.length; k++) {
            primitives[k] = number(sides.primitive(k));
        }
        for (int k = 0; k < locals.length; k++) {
            locals[k] = number(sides.local(k));
        }
    }

    private void makeInstance(int c, int shape) {
        int context = shape != LISTS || random.nextInt(5) == 0 ? -1
                : random.nextBoolean() ? c : random.nextInt(classes);
        int answer = random.nextInt(4) > 0 ? primitive(TRUE) : useOfArgument(shape);
        sides.instance(c, shape, context, new int[] {number(sides.lambda(answer)), -1, -1});
    }

    /** Of the argument in some lists, or of each that is in it. */
    private int useOfArgument(int shape) {
        if (shape != LISTS || random.nextBoolean()) {
            return use(nested(random.nextInt(4), local(0)));
        }
        int each = use(nested(random.nextInt(5), local(1)));
        return call(primitive(FOLD), lambdas(2, each), primitive(TRUE), local(0));
    }

    private void makeDefinition() {
        int arguments = random.nextInt(4);
        int e = one(arguments);
        for (int more = random.nextInt(3); more > 0; more--) {
            e = call(primitive(IF), e, one(arguments), primitive(TRUE));
        }
        if (random.nextInt(3) == 0) {
            e = call(primitive(CONS), e, primitive(NIL));
        }
        int g = number(sides.define(lambdas(arguments, e)));
        if (g >= 0) {
            definitions = g + 1;
            sides.run(g, 1 + random.nextInt(60));
        }
    }

    /** A truth value with a condition or more. */
    private int one(int arguments) {
        int at = nested(random.nextInt(6), leaf(arguments));
        if (definitions > 0 && random.nextInt(3) == 0) {
            return call(number(sides.given(random.nextInt(definitions))), at);
        }
        return use(at);
    }

    private int leaf(int arguments) {
        int way = random.nextInt(10);
        if (way < 4 && arguments > 0) {
            return local(random.nextInt(arguments));
        }
        if (way == 9) {
            return random.nextBoolean() ? primitive(NIL) : lambdas(1, local(0));
        }
        return way < 7 ? number(sides.number(way)) : primitive(TRUE);
    }

    private void askAllTowers() {
        for (int of = 0; of <= 2; of++) {
            int t = of;
            for (int lists = 0; lists < 5 && t >= 0; lists++) {
                for (int c = 0; c < classes && sides.callCount() < 510; c++) {
                    sides.is(c, t);
                }
                t = sides.callCount() < 510 ? number(sides.list(t)) : -1;
            }
        }
    }

    private static int number(String answer) {
        return SideBySide.numberIn(answer, -1);
    }

    private int primitive(int k) {
        return primitives[k];
    }

    private int local(int k) {
        return locals[k];
    }

    private int use(int x) {
        return call(number(sides.use(random.nextInt(classes), 0)), x);
    }

    private int lambdas(int many, int body) {
        int e = body;
        for (int i = 0; i < many; i++) {
            e = number(sides.lambda(e));
        }
        return e;
    }

    private int call(int f, int... xs) {
        int e = f;
        for (int x : xs) {
            e = number(sides.apply(e, x));
            latest = Math.max(latest, e);
        }
        return e;
    }

    private int nested(int lists, int e) {
        int inner = e;
        for (int i = 0; i < lists; i++) {
            inner = call(primitive(CONS), inner, primitive(NIL));
        }
        return inner;
    }
}
