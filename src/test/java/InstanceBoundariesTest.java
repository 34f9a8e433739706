/** The boundaries of promises 13 and 16 and of INSTANCES among the terms, a test for each sentence. */
public final class InstanceBoundariesTest {
    private static final int NO_TYPE = -1;
    private static final int UNFULFILLED = -2;
    private static final int STRAY = -3;
    private static final int TOO_MUCH = -4;
    private static final int NOT_ABOVE = -5;

    private final Expect expect = new Expect();
    private final Twins twins = new Twins(expect);

    public static void main(String[] args) {
        InstanceBoundariesTest test = new InstanceBoundariesTest();
        test.noSuchClassOrShape();
        test.noSuchContext();
        test.noSuchExpression();
        test.once();
        test.aboveIt();
        test.contextAboveIt();
        test.firstMethod();
        test.noType();
        test.unfulfilled();
        test.stray();
        test.tooManyLists();
        test.listsAlone();
        test.itself();
        test.firstOfThese();
        test.membership();
        test.membershipRefused();
        test.expect.end();
    }

    /** Class 0 with two methods of type a, class 1 with one; expressions 0 (a number) to 2. */
    private static int twoClasses(Builder b) {
        b.classWith(-1, 2);
        b.house.method(0, 2);
        b.classWith(-1, 2);
        b.number(1);
        b.number(2);
        return b.number(3);
    }

    private void noSuchClassOrShape() {
        expect.sentence("instance: IllegalArgumentException, when there is no such class", () -> {
            for (int no : new int[] {Integer.MIN_VALUE, -1, 2, 5, 6, Integer.MAX_VALUE}) {
                twins.badArgument("class " + no, InstanceBoundariesTest::twoClasses,
                        (x, e) -> x.instance(no, 0, -1, e, e, e));
            }
            Builder b = new Builder();
            int e = twoClasses(b);
            expect.same("the last that is there", 0, () -> b.house.instance(1, 0, -1, e, e, e));
        });
        expect.sentence("instance: IllegalArgumentException, when there is no such .. shape", () -> {
            for (int no : new int[] {Integer.MIN_VALUE, -1, 3, Integer.MAX_VALUE}) {
                twins.badArgument("shape " + no, InstanceBoundariesTest::twoClasses,
                        (x, e) -> x.instance(0, no, -1, e, e, e));
            }
            for (int i = 0; i < 3; i++) {
                int shape = i;
                DictionaryHouse x = new DictionaryHouse();
                int c = x.type(-1);
                int ofInt = x.list(0);
                int[] types = {0, 1, ofInt};
                expect.same("shape " + shape, 0, () -> x.instance(c, shape, -1, 0, 0, 0));
                for (int j = 0; j < 3; j++) {
                    int other = j;
                    expect.same("is for that alone: " + other, other == shape, () -> x.is(c, types[other]));
                }
            }
        });
    }

    private void noSuchContext() {
        expect.sentence("instance: IllegalArgumentException, when there is no such .. context", () -> {
            for (int no : new int[] {Integer.MIN_VALUE, -2, 2, 5, 6, Integer.MAX_VALUE}) {
                twins.badArgument("context " + no, InstanceBoundariesTest::twoClasses,
                        (x, e) -> x.instance(0, 2, no, e, e, e));
            }
            for (int i = -1; i <= 1; i++) {
                int context = i;
                DictionaryHouse x = new DictionaryHouse();
                x.type(-1);
                x.type(-1);
                expect.same("context " + context, 0, () -> x.instance(0, 2, context, 0, 0, 0));
            }
        });
        expect.sentence("its context (a class, or NONE; NONE for shapes 0 and 1)", () -> {
            for (int i = 0; i < 2; i++) {
                int shape = i;
                twins.badArgument("a context for shape " + shape, InstanceBoundariesTest::twoClasses,
                        (x, e) -> x.instance(0, shape, 0, e, e, e));
                twins.badArgument("another class for shape " + shape, InstanceBoundariesTest::twoClasses,
                        (x, e) -> x.instance(0, shape, 1, e, e, e));
                twins.badArgument("no class for shape " + shape, InstanceBoundariesTest::twoClasses,
                        (x, e) -> x.instance(0, shape, -2, e, e, e));
            }
            Builder b = new Builder();
            int e = twoClasses(b);
            expect.same("NONE for shape 0", 0, () -> b.house.instance(0, 0, -1, e, e, e));
        });
    }

    private void noSuchExpression() {
        expect.sentence("expressions for its methods (of those that it has; others are not looked at)", () -> {
            int[] no = {Integer.MIN_VALUE, -1, 3, 200, Integer.MAX_VALUE};
            for (int many = 0; many <= 3; many++) {
                for (int bad : no) {
                    methodsLookedAt(many, bad);
                }
            }
        });
    }

    /** A bad expression is refused where a method has it, and not looked at behind the last method. */
    private void methodsLookedAt(int many, int bad) {
        for (int i = 0; i < 3; i++) {
            int at = i;
            Twins.Past past = b -> {
                int c = b.house.type(-1);
                for (int m = 0; m < many; m++) {
                    b.house.method(c, 2);
                }
                b.number(1);
                b.number(2);
                return b.number(3);
            };
            Twins.Extra call = (x, e) ->
                    x.instance(0, 0, -1, at == 0 ? bad : e, at == 1 ? bad : e, at == 2 ? bad : e);
            String what = many + " methods, " + bad + " for method " + at;
            if (at < many) {
                twins.badArgument(what, past, call);
            } else {
                Builder b = new Builder();
                int e = past.make(b);
                expect.same(what, 0, () -> call.call(b.house, e));
            }
        }
    }

    private void once() {
        expect.sentence("instance: IllegalStateException, when there is an instance of the class for the shape", () -> {
            for (int i = 0; i < 3; i++) {
                int shape = i;
                Twins.Past past = b -> {
                    b.house.type(-1);
                    b.house.type(-1);
                    b.house.instance(0, shape, -1, 0, 0, 0);
                    return 0;
                };
                twins.badState("shape " + shape, past, (x, n) -> x.instance(0, shape, -1, 0, 0, 0));
                Builder b = new Builder();
                past.make(b);
                expect.same("of another class", 0, () -> b.house.instance(1, shape, -1, 0, 0, 0));
                expect.same("for another shape", 0, () -> b.house.instance(0, (shape + 1) % 3, -1, 0, 0, 0));
            }
            Twins.Past lists = b -> {
                b.house.type(-1);
                return b.house.instance(0, 2, 0, 0, 0, 0);
            };
            twins.badState("with another context", lists, (x, n) -> x.instance(0, 2, -1, 0, 0, 0));
            twins.badArgument("no such context goes ahead", lists, (x, n) -> x.instance(0, 2, 1, 0, 0, 0));
        });
    }

    private void aboveIt() {
        expect.sentence("-5 the class above it has no instance for the shape", () -> {
            for (int i = 0; i < 3; i++) {
                int shape = i;
                Twins.Past others = b -> {
                    int top = b.house.type(-1);
                    b.house.type(b.house.type(top));
                    b.house.instance(top, (shape + 1) % 3, -1, 0, 0, 0);
                    return b.house.instance(top, (shape + 2) % 3, -1, 0, 0, 0);
                };
                twins.leavesAll("only for other shapes", NOT_ABOVE, others, (x, n) -> x.instance(1, shape, -1, 0, 0, 0));
                Twins.Past twoAbove = b -> {
                    others.make(b);
                    return b.house.instance(0, shape, -1, 0, 0, 0);
                };
                twins.leavesAll("only two above", NOT_ABOVE, twoAbove, (x, n) -> x.instance(2, shape, -1, 0, 0, 0));
                Builder b = new Builder();
                twoAbove.make(b);
                expect.same("one above", 0, () -> b.house.instance(1, shape, -1, 0, 0, 0));
                expect.same("and below that", 0, () -> b.house.instance(2, shape, -1, 0, 0, 0));
                expect.same("none above", 0, () -> b.house.instance(b.house.type(-1), shape, -1, 0, 0, 0));
            }
        });
    }

    /** Classes 0 above 1 above 2, class 3 beside them, class 4 above 5; lists are in class 4. */
    private static int contexts(Builder b, int upper) {
        DictionaryHouse x = b.house;
        x.type(-1);
        x.type(0);
        x.type(1);
        x.type(-1);
        x.type(-1);
        x.type(4);
        return x.instance(4, 2, upper, 0, 0, 0);
    }

    private void contextAboveIt() {
        expect.sentence("-5 .. or (lists) one with a context which the variable would not be in if it is in this context",
                () -> {
            boolean[][] gives = {
                {false, true, true, true, false, false, false},
                {false, false, true, true, false, false, false},
                {false, false, false, true, false, false, false},
                {false, false, false, false, true, false, false},
                {false, false, false, false, false, true, true},
            };
            for (int i = 0; i < gives.length; i++) {
                for (int j = -1; j < 6; j++) {
                    int upper = i;
                    int context = j;
                    String what = "context " + context + " below context " + upper;
                    if (gives[upper][context + 1]) {
                        Builder b = new Builder();
                        contexts(b, upper);
                        expect.same(what, 0, () -> b.house.instance(5, 2, context, 0, 0, 0));
                    } else {
                        twins.leavesAll(what, NOT_ABOVE, b -> contexts(b, upper),
                                (x, n) -> x.instance(5, 2, context, 0, 0, 0));
                    }
                }
            }
            for (int j = -1; j < 6; j++) {
                int context = j;
                Builder b = new Builder();
                contexts(b, -1);
                expect.same("one without a context", 0, () -> b.house.instance(5, 2, context, 0, 0, 0));
            }
        });
        expect.sentence("when there is no such .. expression: ahead of -5", () -> {
            Twins.Past past = b -> {
                b.house.type(-1);
                return b.classWith(0, 2);
            };
            twins.badArgument("no such expression", past, (x, c) -> x.instance(c, 0, -1, 0, 0, 0));
        });
    }

    /** What threeMethods() makes: a right one, and those that are -1, -2 and -3. */
    private static final int[] BODIES = {2, 0, 5, 9};

    /** Class 0 with three methods a -> INT, and class 1 with one of type a. */
    private static int threeMethods(Builder b) {
        DictionaryHouse x = b.house;
        int toInt = x.function(2, 0);
        int c = b.classWith(-1, toInt);
        x.method(c, toInt);
        x.method(c, toInt);
        b.classWith(-1, 2);
        int one = b.number(1);
        int truth = b.trueOne();
        b.lambdas(1, one);
        b.lambdas(1, b.call(x.use(c, 0), truth));
        return b.lambdas(1, b.call(x.use(c, 0), x.use(1, 0)));
    }

    private static int instanceOf(DictionaryHouse x, int first, int second, int third) {
        return x.instance(0, 0, -1, BODIES[first], BODIES[second], BODIES[third]);
    }

    private void firstMethod() {
        int[] due = {0, NO_TYPE, UNFULFILLED, STRAY};
        expect.sentence("otherwise by the first method of which that is so", () -> {
            for (int i = 0; i < 64; i++) {
                int first = i / 16;
                int second = i / 4 % 4;
                int third = i % 4;
                int wrong = first != 0 ? due[first] : second != 0 ? due[second] : due[third];
                String what = "methods " + due[first] + ", " + due[second] + ", " + due[third];
                if (wrong == 0) {
                    Builder b = new Builder();
                    threeMethods(b);
                    expect.same(what, 0, () -> instanceOf(b.house, first, second, third));
                } else {
                    twins.leavesAll(what, wrong, InstanceBoundariesTest::threeMethods,
                            (x, last) -> instanceOf(x, first, second, third));
                }
            }
        });
    }

    private void noType() {
        expect.sentence("-1 also when this is not what its type can be", () -> {
            Twins.Past past = b -> {
                int c = b.classWith(-1, b.house.function(2, 2));
                b.lambdas(1, b.local(0));
                b.lambdas(1, b.plus(b.local(0), b.number(1)));
                return c;
            };
            int same = 1;
            int next = 7;
            Builder b = new Builder();
            past.make(b);
            expect.same("INT -> INT for INT", 0, () -> b.instance(0, 0, -1, next));
            expect.same("a -> a for BOOL", 0, () -> b.instance(0, 1, -1, same));
            expect.same("a -> a for lists", 0, () -> b.instance(0, 2, -1, same));
            twins.leavesAll("INT -> INT for BOOL", NO_TYPE, past, (x, c) -> x.instance(c, 1, -1, next, 0, 0));
            twins.leavesAll("INT -> INT for lists", NO_TYPE, past, (x, c) -> x.instance(c, 2, -1, next, 0, 0));
        });
        expect.sentence("a list of a variable", () -> {
            Twins.Past past = b -> {
                b.classWith(-1, b.house.function(2, 2));
                return b.lambdas(1, b.cons(b.number(1), b.local(0)));
            };
            twins.leavesAll("not of INT", NO_TYPE, past, (x, e) -> x.instance(0, 2, -1, e, 0, 0));
            twins.leavesAll("whatever its context", NO_TYPE, past, (x, e) -> x.instance(0, 2, 0, e, 0, 0));
            Twins.Past lists = b -> {
                b.classWith(-1, b.house.function(2, 2));
                return b.lambdas(1, b.cons(b.nil(), b.local(0)));
            };
            twins.leavesAll("not of a list", NO_TYPE, lists, (x, e) -> x.instance(0, 2, -1, e, 0, 0));
            Twins.Past functions = b -> {
                b.classWith(-1, b.house.function(2, 2));
                return b.lambdas(1, b.cons(b.lambdas(1, b.local(0)), b.local(0)));
            };
            twins.leavesAll("not of functions", NO_TYPE, functions, (x, e) -> x.instance(0, 2, -1, e, 0, 0));
        });
        expect.sentence("-1 .. (also one without end, or a local without its lambda): as with a scheme", () -> {
            Twins.Past past = b -> {
                b.classWith(-1, b.house.function(2, 2));
                b.local(0);
                b.lambdas(1, b.local(1));
                return b.lambdas(1, b.call(b.local(0), b.local(0)));
            };
            for (int i = 0; i < 3; i++) {
                int shape = i;
                twins.leavesAll("a local", NO_TYPE, past, (x, e) -> x.instance(0, shape, -1, 0, 0, 0));
                twins.leavesAll("a local 1 in a lambda", NO_TYPE, past, (x, e) -> x.instance(0, shape, -1, 2, 0, 0));
                twins.leavesAll("one without end", NO_TYPE, past, (x, e) -> x.instance(0, shape, -1, e, 0, 0));
            }
        });
    }

    /** Class 0, a -> INT, by a use of class 1's method, a -> INT, on its argument. */
    private static int viaOther(Builder b) {
        int toInt = b.house.function(2, 0);
        b.classWith(-1, toInt);
        b.classWith(-1, toInt);
        b.lambdas(1, b.number(1));
        return b.lambdas(1, b.call(b.house.use(1, 0), b.local(0)));
    }

    private void unfulfilled() {
        expect.sentence("-2 a condition of INT, BOOL, a list, a function is not fulfilled: as with a scheme", () -> {
            for (int i = 0; i < 3; i++) {
                int shape = i;
                twins.leavesAll("no instance for shape " + shape, UNFULFILLED, InstanceBoundariesTest::viaOther,
                        (x, e) -> x.instance(0, shape, -1, e, 0, 0));
                Builder b = new Builder();
                int e = viaOther(b);
                b.instance(1, shape, -1, 1);
                expect.same("an instance for shape " + shape, 0, () -> b.instance(0, shape, -1, e));
            }
            Twins.Past function = b -> {
                viaOther(b);
                b.instance(1, 0, -1, 1);
                b.instance(1, 2, 1, 1);
                return b.lambdas(1, b.call(b.house.use(1, 0), 1));
            };
            twins.leavesAll("a function", UNFULFILLED, function, (x, e) -> x.instance(0, 0, -1, e, 0, 0));
        });
        expect.sentence("-2 .. (a list's by what its instance asks for)", () -> {
            Twins.Past truths = b -> {
                viaOther(b);
                b.instance(1, 0, -1, 1);
                b.instance(1, 2, 1, 1);
                return b.lambdas(1, b.call(b.house.use(1, 0), b.nested(2, b.trueOne())));
            };
            twins.leavesAll("lists of lists of BOOL", UNFULFILLED, truths, (x, e) -> x.instance(0, 0, -1, e, 0, 0));
            Builder b = new Builder();
            int e = truths.make(b);
            b.instance(1, 1, -1, 1);
            expect.same("when BOOL is in it", 0, () -> b.instance(0, 0, -1, e));
        });
    }

    /** Classes 0 above 1 above 2, each a -> INT, class 3 a -> INT; an expression that sums a list by class 1. */
    private static int summing(Builder b) {
        int toInt = b.house.function(2, 0);
        b.classWith(-1, toInt);
        b.classWith(0, toInt);
        b.classWith(1, toInt);
        b.classWith(-1, toInt);
        int step = b.lambdas(2, b.plus(b.call(b.house.use(1, 0), b.local(1)), b.local(0)));
        return b.lambdas(1, b.fold(step, b.number(0), b.local(0)));
    }

    private void stray() {
        expect.sentence("-3 also when a condition remains that the context does not give", () -> {
            for (int no : new int[] {-1, 0, 3}) {
                twins.leavesAll("context " + no, STRAY, InstanceBoundariesTest::summing,
                        (x, e) -> x.instance(3, 2, no, e, 0, 0));
            }
            for (int context : new int[] {1, 2}) {
                Builder b = new Builder();
                int e = summing(b);
                expect.same("context " + context, 0, () -> b.instance(3, 2, context, e));
            }
        });
        expect.sentence("-3 a condition remains for a variable that does not stand in its type: as with a scheme", () -> {
            Twins.Past past = b -> {
                b.classWith(-1, b.house.function(2, 0));
                b.classWith(-1, 2);
                return b.lambdas(1, b.call(b.house.use(0, 0), b.house.use(1, 0)));
            };
            for (int i = 0; i < 3; i++) {
                int shape = i;
                twins.leavesAll("shape " + shape, STRAY, past, (x, e) -> x.instance(0, shape, -1, e, 0, 0));
            }
            twins.leavesAll("whatever its context", STRAY, past, (x, e) -> x.instance(0, 2, 0, e, 0, 0));
        });
    }

    /** Class 0 of INT, and of lists in itself; class 1 for an argument that stands in so many lists. */
    private static int inLists(Builder b, int lists) {
        int toInt = b.house.function(2, 0);
        b.classWith(-1, toInt);
        b.classWith(-1, toInt);
        int constant = b.lambdas(1, b.number(1));
        b.instance(0, 0, -1, constant);
        b.instance(0, 2, 0, constant);
        return b.lambdas(1, b.call(b.house.use(0, 0), b.nested(lists, b.local(0))));
    }

    private void tooManyLists() {
        expect.sentence("-4 for lists a condition was followed through", () -> {
            Builder ofInt = new Builder();
            int three = inLists(ofInt, 3);
            expect.same("three lists of INT", 0, () -> ofInt.instance(1, 0, -1, three));
            twins.leavesAll("four lists of INT", TOO_MUCH, b -> inLists(b, 4), (x, e) -> x.instance(1, 0, -1, e, 0, 0));
            Builder ofVariable = new Builder();
            int two = inLists(ofVariable, 2);
            expect.same("three lists of a variable", 0, () -> ofVariable.instance(1, 2, 0, two));
            twins.leavesAll("four lists of a variable", TOO_MUCH, b -> inLists(b, 3),
                    (x, e) -> x.instance(1, 2, 0, e, 0, 0));
        });
    }

    private void listsAlone() {
        expect.sentence("-4 .. alone", () -> {
            Builder b = new Builder();
            b.classWith(-1, b.house.function(2, 0));
            int nine = b.lambdas(9, b.number(1));
            int e = b.lambdas(1, b.call(b.lambdas(1, b.number(1)), nine));
            b.fillTypesTo(40);
            for (int i = 0; i < 3; i++) {
                int shape = i;
                expect.same("nine variables and no room for types", 0, () -> b.instance(0, shape, -1, e));
            }
            expect.badState("no type was made", () -> b.house.list(39));
        });
        expect.sentence("-4 .. alone", () -> {
            Builder b = new Builder();
            b.classWith(-1, b.house.function(2, 0));
            int e = b.lambdas(1, b.call(b.lambdas(1, b.number(1)), b.house.primitive(7)));
            expect.same("with room for types", 0, () -> b.instance(0, 2, 0, e));
            expect.same("none is made either", 11, () -> b.house.list(9));
        });
    }

    private void itself() {
        expect.sentence("The instance itself, too, may be used in it", () -> {
            for (int i = 0; i < 3; i++) {
                int shape = i;
                Builder b = new Builder();
                b.classWith(-1, b.house.function(2, 0));
                b.house.method(0, 10);
                int second = b.house.use(0, 1);
                int first = b.house.use(0, 0);
                expect.same("shape " + shape, 0, () -> b.house.instance(0, shape, -1, second, first, 0));
            }
            Builder lists = new Builder();
            lists.classWith(-1, lists.house.function(2, 0));
            int e = lists.lambdas(1, lists.call(lists.house.use(0, 0), lists.nested(1, lists.local(0))));
            expect.same("for lists of lists, by its context", 0, () -> lists.instance(0, 2, 0, e));
            Builder apart = new Builder();
            apart.classWith(-1, apart.house.function(2, 0));
            int sum = apart.lambdas(2, apart.plus(apart.call(apart.house.use(0, 0), apart.local(1)), apart.local(0)));
            int all = apart.lambdas(1, apart.fold(sum, apart.number(0), apart.local(0)));
            expect.same("but not for what it is of, without one", STRAY, () -> apart.instance(0, 2, -1, all));
        });
        expect.sentence("when it is wrong there is none", () -> {
            Twins.Past past = b -> {
                int c = b.classWith(-1, b.house.function(2, 0));
                b.house.list(0);
                b.lambdas(1, b.number(1));
                return b.lambdas(1, b.call(b.house.use(c, 0), b.lambdas(1, b.local(0))));
            };
            for (int i = 0; i < 3; i++) {
                int shape = i;
                twins.leavesAll("shape " + shape, UNFULFILLED, past, (x, e) -> x.instance(0, shape, -1, e, 0, 0));
                Builder b = new Builder();
                int wrong = past.make(b);
                int[] types = {0, 1, 11};
                expect.same("wrong", UNFULFILLED, () -> b.instance(0, shape, -1, wrong));
                expect.same("so it is not in it", false, () -> b.house.is(0, types[shape]));
                expect.same("and can be made", 0, () -> b.instance(0, shape, -1, 1));
                expect.same("then it is", true, () -> b.house.is(0, types[shape]));
            }
        });
    }

    /** Each method wrong in two ways, the later of the two standing first in it. */
    private void firstOfThese() {
        expect.sentence("-5 .. otherwise", () -> {
            Twins.Past past = b -> {
                b.house.type(-1);
                b.classWith(0, 2);
                return b.local(0);
            };
            twins.leavesAll("-5 ahead of -1", NOT_ABOVE, past, (x, e) -> x.instance(1, 0, -1, e, 0, 0));
        });
        expect.sentence("WRONG, the first of these: as with a scheme", () -> {
            for (int i = 0; i < WrongParts.WAYS; i++) {
                for (int j = 0; j < WrongParts.WAYS; j++) {
                    int one = i;
                    int other = j;
                    forLists("parts " + one + " and " + other, WrongParts.dueForLists(one, other),
                            b -> WrongParts.both(b, one, other));
                }
            }
        });
        expect.sentence("-2 and -3 at the end of more than three lists go ahead of -4", () -> {
            Twins.Past truth = b -> {
                inLists(b, 1);
                return b.lambdas(1, b.call(b.house.use(0, 0), b.nested(4, b.trueOne())));
            };
            twins.leavesAll("BOOL", UNFULFILLED, truth, (x, e) -> x.instance(1, 0, -1, e, 0, 0));
            twins.leavesAll("another context", STRAY, b -> inLists(b, 3), (x, e) -> x.instance(1, 2, 1, e, 0, 0));
        });
    }

    private void forLists(String what, int due, Twins.Past past) {
        Twins.Extra call = (x, e) -> x.instance(WrongParts.FREE, 2, WrongParts.USUAL, e, 0, 0);
        if (due != 0) {
            twins.leavesAll(what, due, past, call);
        } else {
            Builder b = new Builder();
            int e = past.make(b);
            expect.same(what, 0, () -> call.call(b.house, e));
        }
    }

    private void membership() {
        expect.sentence("A type IS IN a class: INT or BOOL when there is such an instance", () -> {
            for (int i = 0; i < 2; i++) {
                int shape = i;
                DictionaryHouse x = new DictionaryHouse();
                x.type(-1);
                x.type(-1);
                expect.same("not yet", false, () -> x.is(0, shape));
                x.instance(0, shape, -1, 0, 0, 0);
                expect.same("then it is", true, () -> x.is(0, shape));
                expect.same("the other one is not", false, () -> x.is(0, 1 - shape));
                expect.same("nor in another class", false, () -> x.is(1, shape));
            }
        });
        expect.sentence("a list when there is one, and what it is of is in its context (if any)", () -> {
            DictionaryHouse x = new DictionaryHouse();
            x.type(-1);
            x.type(-1);
            int ofInt = x.list(0);
            int ofBool = x.list(1);
            int ofLists = x.list(ofInt);
            int ofA = x.list(2);
            x.instance(1, 0, -1, 0, 0, 0);
            expect.same("none, though INT is in its context", false, () -> x.is(0, ofInt));
            x.instance(0, 2, 1, 0, 0, 0);
            expect.same("what it is of is in the context", true, () -> x.is(0, ofInt));
            expect.same("what it is of is not", false, () -> x.is(0, ofBool));
            expect.same("lists are not", false, () -> x.is(0, ofLists));
            expect.same("variables are not", false, () -> x.is(0, ofA));
            x.instance(1, 2, -1, 0, 0, 0);
            expect.same("without a context", true, () -> x.is(1, ofBool) && x.is(1, ofA) && x.is(1, ofLists));
            expect.same("lists are now", true, () -> x.is(0, ofLists));
        });
        expect.sentence("what it is of is in its context: as deep as types go", () -> {
            Builder b = new Builder();
            b.house.type(-1);
            b.house.instance(0, 2, 0, 0, 0, 0);
            b.fillTypesTo(40);
            expect.same("thirty lists of BOOL", false, () -> b.house.is(0, 39));
            b.house.instance(0, 1, -1, 0, 0, 0);
            expect.same("when BOOL is in it", true, () -> b.house.is(0, 39));
        });
        expect.sentence("a function never", () -> {
            Builder b = new Builder();
            everyInstance(b);
            int function = b.house.function(0, 0);
            int ofFunctions = b.house.list(function);
            expect.same("a function", false, () -> b.house.is(0, function));
            expect.same("a list of functions in itself", false, () -> b.house.is(0, ofFunctions));
            expect.same("from and to variables", false, () -> b.house.is(0, b.house.function(2, 2)));
        });
        expect.sentence("variables are in none", () -> {
            Builder b = new Builder();
            everyInstance(b);
            for (int i = 2; i <= 9; i++) {
                int v = i;
                expect.same("variable " + v, false, () -> b.house.is(0, v));
                expect.same("a list of it", false, () -> b.house.is(0, b.house.list(v)));
            }
        });
    }

    private static int everyInstance(Builder b) {
        b.house.type(-1);
        b.house.instance(0, 0, -1, 0, 0, 0);
        b.house.instance(0, 1, -1, 0, 0, 0);
        b.house.instance(0, 2, 0, 0, 0, 0);
        return b.house.list(0);
    }

    private void membershipRefused() {
        expect.sentence("is: IllegalArgumentException, when there is no such class", () -> {
            for (int no : new int[] {Integer.MIN_VALUE, -1, 1, 5, 6, Integer.MAX_VALUE}) {
                twins.badArgument("class " + no, InstanceBoundariesTest::everyInstance,
                        (x, last) -> x.is(no, 0) ? 1 : 0);
            }
        });
        expect.sentence("is: IllegalArgumentException, when there is no such .. type", () -> {
            for (int no : new int[] {Integer.MIN_VALUE, -1, 11, 39, 40, Integer.MAX_VALUE}) {
                twins.badArgument("type " + no, InstanceBoundariesTest::everyInstance,
                        (x, last) -> x.is(0, no) ? 1 : 0);
            }
            Builder b = new Builder();
            int last = everyInstance(b);
            expect.same("the last that is there", true, () -> b.house.is(0, last));
        });
    }
}
