import java.util.Random;

/**
 * Promises 1 to 18 together: many runs of calls, with seeds of their own, in which every answer of
 * the program is held against PlainHouse. Which calls are made leans towards expressions that have
 * types, since calls by pure chance would hardly ever come to a definition.
 */
public final class RandomRunsTest implements SideBySide.Play {
    private static final int RUNS = 1500;
    private static final int CALLS = 512;

    private final SideBySide sides;
    private final Random random;
    private int types = 10;
    private int classes;
    private final int[] methods = new int[6];
    private int expressions;
    private int definitions;

    private RandomRunsTest(long seed, SideBySide sides) {
        random = new Random(seed);
        this.sides = sides;
    }

    public static void main(String[] args) {
        new SideBySide.Series() {
            @Override
            SideBySide.Play newPlay(long seed, SideBySide sides) {
                return new RandomRunsTest(seed, sides);
            }
        }.playAll(args, RUNS);
    }

    @Override
    public void play() {
        makeUsualTypes();
        int opening = 16 + random.nextInt(24);
        while (sides.callCount() < opening) {
            prepare();
        }
        // A turn makes a few calls at most.
        while (sides.callCount() < CALLS - 16 && !sides.hasFailed()) {
            anyCall();
        }
        while (sides.callCount() < CALLS && !sides.hasFailed()) {
            sides.is(some(classes), some(types));
        }
    }

    /** Types of which methods can well be: from a to a, to BOOL, to INT, from INT, of lists. */
    private void makeUsualTypes() {
        sides.function(2, 1);
        sides.function(2, 10);
        sides.function(2, 2);
        sides.function(2, 12);
        sides.function(2, 0);
        sides.function(0, 2);
        sides.list(2);
        sides.function(16, 2);
        types = 18;
    }

    private void prepare() {
        switch (random.nextInt(8)) {
            case 0 -> makeClass();
            case 1, 2, 3 -> makeMethod();
            default -> makeLeaf();
        }
    }

    private void anyCall() {
        int which = random.nextInt(100);
        if (which < 1) {
            makeType();
        } else if (which < 2) {
            makeClass();
        } else if (which < 4) {
            makeMethod();
        } else if (which < 24) {
            makeLeaf();
        } else if (which < 34) {
            keepExpression(sides.lambda(recent()));
        } else if (which < 60) {
            makeApplication();
        } else if (which < 72) {
            makeInstance();
        } else if (which < 84) {
            makeDefinition();
        } else {
            ask();
        }
    }

    /** Mostly one of those that there are, now and then one that is not. */
    private int some(int count) {
        int odd = random.nextInt(60);
        if (odd == 0) {
            return count;
        }
        if (odd == 1) {
            return -1 - random.nextInt(2);
        }
        if (odd == 2 && random.nextInt(4) == 0) {
            return random.nextBoolean() ? Integer.MAX_VALUE : Integer.MIN_VALUE;
        }
        return count == 0 ? 0 : random.nextInt(count);
    }

    private int recent() {
        return random.nextBoolean() || expressions < 12 ? some(expressions) : expressions - 1 - random.nextInt(12);
    }

    private int countAfter(String answer, int before) {
        return Math.max(before, SideBySide.numberIn(answer, -1) + 1);
    }

    private void keepExpression(String answer) {
        expressions = countAfter(answer, expressions);
    }

    private void makeType() {
        int t = random.nextInt(3) == 0 ? random.nextInt(3) : some(types);
        int u = random.nextInt(3) == 0 ? random.nextInt(3) : some(types);
        types = countAfter(random.nextBoolean() ? sides.list(t) : sides.function(t, u), types);
    }

    private void makeClass() {
        classes = countAfter(sides.type(random.nextInt(3) == 0 ? -1 : some(classes)), classes);
    }

    private void makeMethod() {
        int c = some(classes);
        int t = random.nextInt(5) == 0 ? some(types) : random.nextInt(6) == 0 ? 2 : 10 + random.nextInt(8);
        String answer = sides.method(c, t);
        if (c >= 0 && c < classes) {
            methods[c] = countAfter(answer, methods[c]);
        }
    }

    private void makeLeaf() {
        switch (random.nextInt(9)) {
            case 0 -> keepExpression(sides.number(random.nextInt(4) == 0 ? random.nextInt() : random.nextInt(5)));
            case 1, 2 -> keepExpression(sides.primitive(some(8)));
            case 3, 4 -> keepExpression(sides.local(random.nextInt(12) == 0 ? some(10) : random.nextInt(2)));
            case 5, 6, 7 -> {
                int c = some(classes);
                keepExpression(sides.use(c, some(c >= 0 && c < classes ? methods[c] : 1)));
            }
            default -> keepExpression(sides.given(some(definitions)));
        }
    }

    private void makeApplication() {
        boolean careful = random.nextInt(10) > 0;
        for (int i = 0; i < 12; i++) {
            int f = recent();
            int x = recent();
            if (!careful || i == 11 || sides.plain().couldBeApplied(f, x)) {
                keepExpression(sides.apply(f, x));
                return;
            }
        }
    }

    private int bodyFor(int c, int shape, int m) {
        boolean careful = c >= 0 && c < classes && m < methods[c] && shape >= 0 && shape < 3 && random.nextInt(8) > 0;
        for (int i = 0; careful && i < 60; i++) {
            int e = random.nextInt(expressions + 1);
            if (e < expressions && sides.plain().couldBeMethod(c, shape, m, e)) {
                return e;
            }
        }
        return some(expressions);
    }

    private void makeInstance() {
        int c = some(classes);
        int shape = some(3);
        int way = random.nextInt(4);
        int context = way == 0 ? -1 : way == 1 ? c : some(classes);
        if (shape != 2 && random.nextInt(20) > 0) {
            context = -1;
        }
        int[] bodies = {bodyFor(c, shape, 0), bodyFor(c, shape, 1), bodyFor(c, shape, 2)};
        sides.instance(c, shape, context, bodies);
    }

    private void makeDefinition() {
        // Definitions are few, so most that are plain wrong, or of nothing much, are passed by.
        int e = recent();
        for (int i = 0; i < 20 && !sides.plain().isWorthDefining(e, random.nextInt(10)); i++) {
            e = recent();
        }
        definitions = countAfter(sides.define(e), definitions);
        types = Math.max(types, sides.plain().typeCount());
    }

    private void ask() {
        switch (random.nextInt(6)) {
            case 0 -> sides.is(some(classes), some(types));
            case 1 -> sides.value(some(4));
            case 2 -> sides.run(some(definitions), random.nextInt(40));
            default -> sides.run(some(definitions), random.nextInt(60) == 0 ? 301 : 300);
        }
    }
}
