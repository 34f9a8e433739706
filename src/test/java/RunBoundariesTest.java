/** The boundaries of promises 17 and 18 and of RUN among the terms, a test for each sentence. */
public final class RunBoundariesTest {
    private static final int MOST = Integer.MAX_VALUE;
    private static final int LEAST = Integer.MIN_VALUE;

    private final Expect expect = new Expect();
    private final Twins twins = new Twins(expect);

    public static void main(String[] args) {
        RunBoundariesTest test = new RunBoundariesTest();
        test.stepsOfPlaces();
        test.stepsOfUsesAndGiven();
        test.stepsOfPrimitives();
        test.mostSteps();
        test.noEnd();
        test.wraps();
        test.lessAndIf();
        test.folds();
        test.typesThatStandThere();
        test.typesByInstances();
        test.everyMethod();
        test.refusedRuns();
        test.notShown();
        test.values();
        test.longLists();
        test.refusedValues();
        test.latestRun();
        test.expect.end();
    }

    /** Comes to this with so many steps, and to nothing with one less. */
    private void comesTo(String what, int steps, int due, Twins.Past past) {
        Builder b = new Builder();
        int e = past.make(b);
        int g = b.house.define(e);
        if (steps > 1) {
            expect.same(what + ": one step less", -1, () -> b.house.run(g, steps - 1));
            expect.badArgument(what + ": nothing came out", () -> b.house.value(0));
        }
        expect.same(what + ": just enough steps", steps, () -> b.house.run(g, steps));
        expect.same(what, due, () -> b.house.value(0));
        expect.same(what + ": more than enough", steps, () -> b.house.run(g, 300));
    }

    private void stepsOfPlaces() {
        expect.sentence("At each place that is evaluated there is a STEP", () -> {
            comesTo("a number", 1, 5, b -> b.number(5));
            comesTo("a primitive", 1, 1, b -> b.trueOne());
            comesTo("a lambda, a number, a local and the application", 4, 5,
                    b -> b.call(b.lambdas(1, b.local(0)), b.number(5)));
            comesTo("a body that is not evaluated", 4, 5,
                    b -> b.call(b.lambdas(1, b.number(5)), b.lambdas(1, b.plus(b.number(1), b.number(2)))));
            comesTo("an argument that is not used", 8, 5,
                    b -> b.call(b.lambdas(1, b.number(5)), b.plus(b.number(1), b.number(2))));
            comesTo("an argument that is used twice", 12, 6,
                    b -> b.call(b.lambdas(1, b.plus(b.local(0), b.local(0))), b.plus(b.number(1), b.number(2))));
        });
    }

    /** A class with a method a -> INT, which tells for which shape its instance is. */
    private static int shapes(Builder b) {
        b.classWith(-1, b.house.function(2, 0));
        b.instance(0, 0, -1, b.lambdas(1, b.number(100)));
        b.instance(0, 1, -1, b.lambdas(1, b.number(101)));
        b.instance(0, 2, 0, b.lambdas(1, b.number(102)));
        return b.house.use(0, 0);
    }

    private void stepsOfUsesAndGiven() {
        expect.sentence("a given one the expression of that definition", () -> {
            comesTo("once", 2, 5, b -> {
                b.house.define(b.number(5));
                return b.house.given(0);
            });
            comesTo("twice over", 3, 5, b -> {
                b.house.define(b.number(5));
                b.house.define(b.house.given(0));
                return b.house.given(1);
            });
            comesTo("evaluated anew each time", 15, 6, b -> {
                b.house.define(b.plus(b.number(1), b.number(2)));
                return b.plus(b.house.given(0), b.house.given(0));
            });
        });
        expect.sentence("A use is the expression of the method in the instance for the type that stands there then", () -> {
            comesTo("INT", 5, 100, b -> b.call(shapes(b), b.number(1)));
            comesTo("BOOL", 5, 101, b -> b.call(shapes(b), b.trueOne()));
            comesTo("a list", 9, 102, b -> b.call(shapes(b), b.nested(1, b.number(1))));
        });
    }

    private void stepsOfPrimitives() {
        expect.sentence("an application: what is applied, then the other, then .. (a primitive with all arguments) its value",
                () -> {
            comesTo("PLUS", 5, 3, b -> b.plus(b.number(1), b.number(2)));
            comesTo("LESS", 5, 1, b -> b.less(b.number(1), b.number(2)));
            comesTo("IF", 7, 1, b -> b.choose(b.trueOne(), b.number(1), b.number(2)));
            comesTo("IF has both", 15, 3, b -> b.choose(b.trueOne(), b.plus(b.number(1), b.number(2)),
                    b.plus(b.number(3), b.number(4))));
            comesTo("NIL and CONS", 5, 1, b -> b.listOf(b.number(1)));
            comesTo("PLUS with one argument is a function", 8, 3, b -> b.call(
                    b.lambdas(1, b.call(b.local(0), b.number(2))), b.call(b.house.primitive(2), b.number(1))));
        });
    }

    /** Of 300 steps: each given one adds a step, each application of the identity three. */
    private static int threeHundred(Builder b) {
        b.house.define(b.sumOf(57));
        int first = b.house.given(0);
        b.house.define(b.plus(first, first));
        int second = b.house.given(1);
        b.house.define(b.plus(second, second));
        int e = b.house.given(2);
        for (int i = 0; i < 10; i++) {
            e = b.plus(e, b.number(1));
        }
        b.house.define(e);
        int same = b.lambdas(1, b.local(0));
        e = b.house.given(3);
        for (int i = 0; i < 5; i++) {
            e = b.call(same, e);
        }
        return e;
    }

    private void mostSteps() {
        expect.sentence("Runs a definition with so many STEPS (1 .. 300) at most: how many there were", () -> {
            comesTo("300 steps", 300, 4 * 15 + 10, RunBoundariesTest::threeHundred);
            comesTo("1 step", 1, -9, b -> b.number(-9));
        });
        expect.sentence("NONE when these were not enough", () -> {
            Builder b = new Builder();
            b.house.define(threeHundred(b));
            int g = b.house.define(b.house.given(4));
            expect.same("of 301 steps", -1, () -> b.house.run(g, 300));
            expect.badArgument("nothing came out", () -> b.house.value(-1));
            expect.same("of 300 steps", 300, () -> b.house.run(4, 300));
            expect.same("of 300 steps with 299", -1, () -> b.house.run(4, 299));
        });
        expect.sentence("FOLD .. for each of l .. a STEP", () ->
            comesTo("300 steps, of which 161 are those of folds", 300, 5 * 112 + 4, RunBoundariesTest::foldedToThreeHundred));
    }

    /** Seven numbers, doubled twice by folds to 28; these summed up five times by folds. */
    private static int foldedToThreeHundred(Builder b) {
        int twice = b.lambdas(1, b.fold(b.house.primitive(6), b.local(0), b.local(0)));
        int lists = b.house.define(b.call(twice, b.call(twice, numbers(b, 7))));
        b.house.define(b.lambdas(1, b.fold(b.house.primitive(2), b.number(0), b.local(0))));
        int one = b.number(1);
        int sum = b.call(b.house.given(1), b.local(0));
        int sums = sum;
        for (int i = 0; i < 4; i++) {
            sums = b.plus(sums, sum);
        }
        for (int i = 0; i < 4; i++) {
            sums = b.plus(sums, one);
        }
        int same = b.lambdas(1, b.local(0));
        return b.call(b.lambdas(1, b.call(same, b.call(same, sums))), b.house.given(lists));
    }

    private void noEnd() {
        expect.sentence("NONE when these were not enough: of what has no end", () -> {
            Builder b = new Builder();
            b.classWith(-1, b.house.function(2, 2));
            int use = b.house.use(0, 0);
            b.instance(0, 0, -1, use);
            b.instance(0, 1, -1, b.lambdas(1, b.choose(b.call(use, b.local(0)), b.local(0), b.local(0))));
            int deeper = b.fold(b.lambdas(2, b.local(0)), b.local(0), b.call(use, b.nested(1, b.local(0))));
            expect.same("types without end", 0, () -> b.instance(0, 2, 0, b.lambdas(1, deeper)));
            b.classWith(-1, b.house.function(2, 2));
            int other = b.house.use(1, 0);
            int again = b.fold(b.lambdas(2, b.call(other, b.local(2))), b.local(0), b.local(0));
            expect.same("folds without end", 0, () -> b.instance(1, 2, -1, b.lambdas(1, again)));
            int[] all = {b.house.define(b.call(use, b.number(1))), b.house.define(b.call(use, b.trueOne())),
                b.house.define(b.call(use, b.nested(1, b.number(1)))), b.house.define(b.call(other, numbers(b, 3)))};
            for (int g : all) {
                for (int steps : new int[] {1, 2, 149, 299, 300}) {
                    expect.same("definition " + g + " with " + steps, -1, () -> b.house.run(g, steps));
                }
            }
            expect.badArgument("nothing came out", () -> b.house.value(-1));
        });
    }

    private void wraps() {
        expect.sentence("PLUS wraps", () -> {
            int[][] sums = {{MOST, 0, MOST}, {MOST, 1, LEAST}, {1, MOST, LEAST}, {MOST, MOST, -2}, {LEAST, 0, LEAST},
                {LEAST, -1, MOST}, {-1, LEAST, MOST}, {LEAST, LEAST, 0}, {MOST, LEAST, -1}, {MOST - 1, 1, MOST},
                {LEAST + 1, -1, LEAST}};
            for (int[] sum : sums) {
                comesTo(sum[0] + " and " + sum[1], 5, sum[2], b -> b.plus(b.number(sum[0]), b.number(sum[1])));
            }
        });
        expect.sentence("a number .. is its value", () -> {
            for (int v : new int[] {LEAST, LEAST + 1, -1, 0, 1, MOST - 1, MOST}) {
                comesTo("the number " + v, 1, v, b -> b.number(v));
            }
        });
    }

    private void lessAndIf() {
        expect.sentence("3 LESS of INT -> INT -> BOOL", () -> {
            int[][] pairs = {{0, 0, 0}, {0, 1, 1}, {1, 0, 0}, {-1, 0, 1}, {LEAST, MOST, 1}, {MOST, LEAST, 0},
                {LEAST, LEAST, 0}, {LEAST, LEAST + 1, 1}, {MOST, MOST, 0}, {MOST - 1, MOST, 1}, {-1, MOST, 1}};
            for (int[] pair : pairs) {
                comesTo(pair[0] + " and " + pair[1], 5, pair[2], b -> b.less(b.number(pair[0]), b.number(pair[1])));
            }
        });
        expect.sentence("IF tells the second or third", () -> {
            comesTo("TRUE", 7, 8, b -> b.choose(b.trueOne(), b.number(8), b.number(9)));
            comesTo("FALSE", 7, 9, b -> b.choose(b.falseOne(), b.number(8), b.number(9)));
            comesTo("LESS", 11, 8, b -> b.choose(b.less(b.number(0), b.number(1)), b.number(8), b.number(9)));
            comesTo("not LESS", 11, 9, b -> b.choose(b.less(b.number(1), b.number(1)), b.number(8), b.number(9)));
        });
    }

    private static int numbers(Builder b, int many) {
        int e = b.nil();
        for (int i = many; i >= 1; i--) {
            e = b.cons(b.number(i), e);
        }
        return e;
    }

    private void folds() {
        expect.sentence("FOLD f z l: beginning with z", () -> {
            comesTo("an empty list", 7, 9, b -> b.fold(b.house.primitive(2), b.number(9), b.nil()));
            comesTo("a list of one", 12, 10, b -> b.fold(b.house.primitive(2), b.number(9), numbers(b, 1)));
        });
        expect.sentence("for each of l from the last to the first a STEP", () -> {
            for (int i = 0; i <= 10; i++) {
                int many = i;
                comesTo(many + " in the list", 7 + 4 * many + many, many * (many + 1) / 2,
                        b -> b.fold(b.house.primitive(2), b.number(0), numbers(b, many)));
            }
            Twins.Past doubling = b -> b.fold(b.lambdas(2, b.plus(b.local(1), b.plus(b.local(0), b.local(0)))),
                    b.number(0), numbers(b, 3));
            comesTo("the last one is taken first", 7 + 12 + 3 * 11, 1 + 2 * (2 + 2 * 3), doubling);
        });
        expect.sentence("then f applied to it and to what came out so far", () -> {
            comesTo("it", 7 + 8 + 2 * 3, 1, b -> b.fold(b.lambdas(2, b.local(1)), b.number(9), numbers(b, 2)));
            comesTo("so far", 7 + 8 + 2 * 3, 9, b -> b.fold(b.lambdas(2, b.local(0)), b.number(9), numbers(b, 2)));
            Builder b = new Builder();
            b.house.define(b.fold(b.house.primitive(6), b.nil(), numbers(b, 3)));
            expect.same("CONS and NIL: a copy", 22, () -> b.house.run(0, 300));
            for (int i = 0; i < 3; i++) {
                int at = i;
                expect.same("one of the list", at + 1, () -> b.house.value(at));
            }
        });
    }

    private void typesThatStandThere() {
        expect.sentence("a given one .. for the types that stand there", () -> {
            for (int i = 0; i < 8; i++) {
                int k = i;
                Builder b = new Builder();
                int use = shapes(b);
                b.house.define(b.lambdas(8, b.call(use, b.local(k))));
                int e = b.house.given(0);
                for (int j = 0; j < 8; j++) {
                    e = b.call(e, j == 7 - k ? b.trueOne() : b.number(1));
                }
                int all = e;
                expect.same("BOOL for variable " + (7 - k), 101, () -> result(b, all));
            }
        });
        expect.sentence("in the instance for the type that stands there then", () -> {
            Builder b = new Builder();
            int use = shapes(b);
            int g = b.house.define(b.lambdas(1, b.call(use, b.local(0))));
            int h = b.house.define(b.lambdas(1, b.call(b.house.given(g), b.local(0))));
            int given = b.house.given(h);
            expect.same("INT through two given ones", 100, () -> result(b, b.call(given, b.number(1))));
            expect.same("BOOL through them", 101, () -> result(b, b.call(given, b.trueOne())));
            expect.same("a list through them", 102, () -> result(b, b.call(given, b.nested(1, b.number(1)))));
        });
    }

    private void typesByInstances() {
        expect.sentence("a list of a variable .. the type that stands there then", () -> {
            Builder b = new Builder();
            b.classWith(-1, b.house.function(2, 0));
            b.instance(0, 0, -1, b.lambdas(1, b.local(0)));
            b.instance(0, 1, -1, b.lambdas(1, b.choose(b.local(0), b.number(10), b.number(20))));
            int use = b.house.use(0, 0);
            int step = b.lambdas(2, b.plus(b.call(use, b.local(1)), b.local(0)));
            b.instance(0, 2, 0, b.lambdas(1, b.fold(step, b.number(1000), b.local(0))));
            expect.same("INT", 7, () -> result(b, b.call(use, b.number(7))));
            int truths = b.listOf(b.trueOne(), b.falseOne());
            expect.same("a list of BOOL", 1030, () -> result(b, b.call(use, truths)));
            expect.same("a list of lists of BOOL", 3060, () -> result(b, b.call(use, b.listOf(truths, truths))));
            expect.same("three lists of INT", 3007, () -> result(b, b.call(use, b.nested(3, b.number(7)))));
        });
    }

    /** In class 5 INT tells 1, BOOL 10, a list 100; which of them a method asks for, this tells. */
    private static int kindOf(int c, int shape, int m) {
        return (c + c / 3 + 2 * shape + m * m) % 3;
    }

    /** Classes 0 to 4 with three methods a -> INT and three instances each, all of which ask class 5. */
    private static void fiveClasses(Builder b) {
        int toInt = b.house.function(2, 0);
        for (int c = 0; c < 5; c++) {
            b.classWith(-1, toInt);
            b.house.method(c, toInt);
            b.house.method(c, toInt);
        }
        int tells = b.house.use(b.classWith(-1, toInt), 0);
        b.instance(5, 0, -1, b.lambdas(1, b.number(1)));
        b.instance(5, 1, -1, b.lambdas(1, b.number(10)));
        b.instance(5, 2, -1, b.lambdas(1, b.number(100)));
        int[] bodies = {b.lambdas(1, b.call(tells, b.number(0))), b.lambdas(1, b.call(tells, b.trueOne())),
            b.lambdas(1, b.call(tells, b.nil()))};
        for (int c = 0; c < 5; c++) {
            for (int shape = 0; shape < 3; shape++) {
                b.house.instance(c, shape, -1, bodies[kindOf(c, shape, 0)], bodies[kindOf(c, shape, 1)],
                        bodies[kindOf(c, shape, 2)]);
            }
        }
    }

    private void everyMethod() {
        expect.sentence("a use is the expression of the method in the instance: of each class, shape and method", () -> {
            int[] told = {1, 10, 100};
            Builder b = new Builder();
            fiveClasses(b);
            int[] arguments = {b.number(0), b.trueOne(), b.nil()};
            int cons = b.house.primitive(6);
            int[] lists = new int[15];
            for (int i = 0; i < 15; i++) {
                int use = b.house.use(i / 3, i % 3);
                lists[i] = arguments[2];
                for (int shape = 2; shape >= 0; shape--) {
                    lists[i] = b.call(cons, b.call(use, arguments[shape]), lists[i]);
                }
            }
            // As many as there can be, and all of them ahead of the first run.
            for (int g = 0; g < 20; g++) {
                b.house.define(lists[g % 15]);
            }
            for (int i = 0; i < 20; i++) {
                int g = i;
                int c = g % 15 / 3;
                int m = g % 3;
                expect.same("class " + c + ", method " + m, 1 + 3 * 3 + 3 * 9, () -> b.house.run(g, 300));
                for (int j = 0; j < 3; j++) {
                    int shape = j;
                    expect.same("shape " + shape, told[kindOf(c, shape, m)], () -> b.house.value(shape));
                }
            }
        });
    }

    private static int result(Builder b, int e) {
        b.house.run(b.house.define(e), 300);
        return b.house.value(0);
    }

    /** Definition 0 is the number 7 and has been run; 1 is the number 8; 2 a sum. */
    private static int hasRun(Builder b) {
        b.house.define(b.number(7));
        b.house.define(b.number(8));
        b.house.define(b.plus(b.number(1), b.number(2)));
        return b.house.run(0, 1);
    }

    private void refusedRuns() {
        expect.sentence("run: IllegalArgumentException, when there is no such definition", () -> {
            for (int no : new int[] {LEAST, -1, 3, 19, 20, MOST}) {
                twins.badArgument("definition " + no, RunBoundariesTest::hasRun, (x, n) -> x.run(no, 300));
            }
            Builder b = new Builder();
            hasRun(b);
            expect.same("the last that is there", 5, () -> b.house.run(2, 300));
        });
        expect.sentence("run: IllegalArgumentException, when .. steps are not so", () -> {
            for (int no : new int[] {LEAST, -1, 0, 301, 302, MOST}) {
                twins.badArgument(no + " steps", RunBoundariesTest::hasRun, (x, n) -> x.run(1, no));
            }
            Builder b = new Builder();
            hasRun(b);
            expect.same("1 step", 1, () -> b.house.run(1, 1));
            expect.same("300 steps", 1, () -> b.house.run(1, 300));
        });
    }

    private void notShown() {
        expect.sentence("run: IllegalStateException, when it has conditions", () -> {
            Twins.Past past = b -> {
                hasRun(b);
                int c = b.classWith(-1, 2);
                b.instance(c, 0, -1, b.number(1));
                b.house.define(b.house.use(c, 0));
                return b.house.define(b.nested(1, b.house.use(c, 0)));
            };
            twins.badState("of type a", past, (x, g) -> x.run(g - 1, 300));
            twins.badState("a list of a", past, (x, g) -> x.run(g, 300));
            twins.badArgument("steps go ahead", past, (x, g) -> x.run(g, 301));
        });
        expect.sentence("run: IllegalStateException, when .. its type is not INT, BOOL or a list of one of these", () -> {
            notShown("a list of a", b -> b.nil());
            notShown("a list of lists of INT", b -> b.nested(2, b.number(1)));
            notShown("a list of lists of BOOL", b -> b.nested(2, b.trueOne()));
            notShown("a list of functions", b -> b.nested(1, b.house.primitive(2)));
            notShown("INT -> INT -> INT", b -> b.house.primitive(2));
            notShown("a -> a", b -> b.lambdas(1, b.local(0)));
            notShown("a -> INT", b -> b.lambdas(1, b.number(1)));
            comesTo("INT", 1, 4, b -> b.number(4));
            comesTo("BOOL", 1, 0, b -> b.falseOne());
            comesTo("a list of INT", 5, 4, b -> b.nested(1, b.number(4)));
            comesTo("a list of BOOL", 5, 0, b -> b.nested(1, b.falseOne()));
        });
    }

    private void notShown(String what, Twins.Past expression) {
        twins.badState(what, b -> {
            hasRun(b);
            return b.house.define(expression.make(b));
        }, (x, g) -> x.run(g, 300));
    }

    /** All that came out, and nothing beside it. */
    private void shows(String what, Twins.Past expression, int... due) {
        Builder b = new Builder();
        int e = expression.make(b);
        b.house.run(b.house.define(e), 300);
        expect.same(what + ": how many", due.length, () -> b.house.value(-1));
        for (int i = 0; i < due.length; i++) {
            int at = i;
            expect.same(what + ": " + at, due[at], () -> b.house.value(at));
        }
        for (int no : new int[] {LEAST, -2, due.length, due.length + 1, MOST}) {
            expect.badArgument(what + ": no " + no, () -> b.house.value(no));
        }
    }

    private static int emptyListOfInt(Builder b) {
        return b.choose(b.trueOne(), b.nil(), b.nested(1, b.number(1)));
    }

    private void values() {
        expect.sentence("how many are in the list (what NONE; 1 when it is none), the number", () -> {
            shows("a number", b -> b.number(-1), -1);
            shows("a list of none", RunBoundariesTest::emptyListOfInt);
            shows("a list of one", b -> b.listOf(b.number(-1)), -1);
            shows("a list of two", b -> b.listOf(b.number(MOST), b.number(LEAST)), MOST, LEAST);
        });
        expect.sentence("or one of the list (1 for TRUE, 0 for FALSE), from 0", () -> {
            shows("TRUE", b -> b.trueOne(), 1);
            shows("FALSE", b -> b.falseOne(), 0);
            shows("a list of both", b -> b.listOf(b.falseOne(), b.trueOne(), b.falseOne()), 0, 1, 0);
            shows("numbers in their order", b -> b.listOf(b.number(3), b.number(1), b.number(2)), 3, 1, 2);
        });
    }

    /** Seven, and doubled five times: as long as a list can well be in 300 steps. */
    private void longLists() {
        expect.sentence("how many are in the list: as many as 300 steps can make", () -> {
            Builder b = new Builder();
            int twice = b.lambdas(1, b.fold(b.house.primitive(6), b.local(0), b.local(0)));
            int e = numbers(b, 7);
            for (int i = 0; i < 5; i++) {
                e = b.house.apply(twice, e);
                if (i == 1) {
                    b.house.define(e);
                    e = b.house.given(0);
                }
            }
            int all = e;
            int steps = 29 + 5 * 9 + 7 * 31 + 1;
            expect.same("its steps", steps, () -> b.house.run(b.house.define(all), 300));
            expect.same("how many", 224, () -> b.house.value(-1));
            for (int i = 0; i < 224; i++) {
                int at = i;
                expect.same("one of them: " + at, at % 7 + 1, () -> b.house.value(at));
            }
            expect.badArgument("no more", () -> b.house.value(224));
        });
    }

    private void refusedValues() {
        expect.sentence("value: IllegalArgumentException, when there is no such one", () -> {
            for (int no : new int[] {LEAST, -2, 1, 2, MOST}) {
                twins.badArgument("of a number: " + no, RunBoundariesTest::hasRun, (x, n) -> x.value(no));
            }
            Twins.Past empty = b -> b.house.run(b.house.define(emptyListOfInt(b)), 300);
            twins.badArgument("of an empty list: 0", empty, (x, n) -> x.value(0));
            Twins.Past two = b -> b.house.run(b.house.define(b.listOf(b.number(4), b.number(5))), 300);
            twins.badArgument("of a list of two: 2", two, (x, n) -> x.value(2));
            twins.badArgument("of a list of two: -2", two, (x, n) -> x.value(-2));
        });
        expect.sentence("value: IllegalArgumentException, when there is .. no such run()", () -> {
            Twins.Past none = b -> b.house.define(b.number(1));
            Twins.Past notEnough = b -> b.house.run(b.house.define(b.plus(b.number(1), b.number(2))), 4);
            Twins.Past refused = b -> {
                int g = b.house.define(b.nil());
                Expect.outcome(() -> b.house.run(g, 300));
                return g;
            };
            for (int what = -1; what <= 0; what++) {
                int which = what;
                twins.badArgument("no run", none, (x, n) -> x.value(which));
                twins.badArgument("no run that went through", notEnough, (x, n) -> x.value(which));
                twins.badArgument("only one that was refused", refused, (x, n) -> x.value(which));
            }
        });
    }

    private void latestRun() {
        expect.sentence("Of what the latest run() that went through came to", () -> {
            twins.leavesAll("one that did not go through", -1, RunBoundariesTest::hasRun, (x, n) -> x.run(2, 4));
            Builder b = new Builder();
            hasRun(b);
            expect.same("the first one", 7, () -> b.house.value(0));
            expect.same("one that does not go through", -1, () -> b.house.run(2, 4));
            expect.same("still the first one", 7, () -> b.house.value(0));
            expect.same("one that goes through", 5, () -> b.house.run(2, 5));
            expect.same("is the latest", 3, () -> b.house.value(0));
            expect.same("a list", 9, () -> b.house.run(b.house.define(numbers(b, 2)), 300));
            expect.same("two in it", 2, () -> b.house.value(1));
            expect.same("an empty list", 11, () -> b.house.run(b.house.define(emptyListOfInt(b)), 300));
            expect.same("none in it", 0, () -> b.house.value(-1));
            expect.badArgument("no longer the list", () -> b.house.value(0));
            expect.same("calls of other kinds", 1, () -> b.house.define(b.local(0)) + b.house.list(0) - 8);
            expect.same("leave it as it was", 0, () -> b.house.value(-1));
        });
    }
}
