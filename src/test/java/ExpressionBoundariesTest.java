/** The boundaries of promises 6 to 12 and of EXPRESSIONS among the terms, a test for each sentence. */
public final class ExpressionBoundariesTest {
    private static final int[] FAR_OFF = {Integer.MIN_VALUE, -2, -1, 200, 201, Integer.MAX_VALUE};
    private static final String[] KINDS = {"number", "primitive", "local", "lambda", "apply", "use", "given"};

    private final Expect expect = new Expect();
    private final Twins twins = new Twins(expect);

    public static void main(String[] args) {
        ExpressionBoundariesTest test = new ExpressionBoundariesTest();
        test.most();
        test.placesOfLambdas();
        test.placesOfApplications();
        test.placesOfWhatStandsInIt();
        test.primitivesAndLocals();
        test.lambdasAndApplications();
        test.usesAndGiven();
        test.expect.end();
    }

    /** An expression of each kind; the house has class 0 with method 0, definition 0, and number 0. */
    private static int make(DictionaryHouse x, int kind) {
        switch (kind) {
            case 0:
                return x.number(0);
            case 1:
                return x.primitive(0);
            case 2:
                return x.local(0);
            case 3:
                return x.lambda(0);
            case 4:
                return x.apply(0, 0);
            case 5:
                return x.use(0, 0);
            default:
                return x.given(0);
        }
    }

    /** So many expressions, of which one is defined; the last one's number. */
    private static int filled(Builder b, int many) {
        b.classWith(-1, 2);
        b.house.define(b.number(0));
        for (int e = 1; e < many; e++) {
            b.number(e);
        }
        return many - 1;
    }

    /** A number with lambdas around it, so that expression e has e + 1 places. */
    private static int tower(Builder b, int places) {
        return b.lambdas(places - 1, b.number(1));
    }

    private void most() {
        expect.sentence("EXPRESSIONS have numbers, from 0 on, as they are made", () -> {
            Builder b = new Builder();
            filled(b, 1);
            for (int i = 1; i < 28; i++) {
                int e = i;
                expect.same(KINDS[e % 7], e, () -> make(b.house, e % 7));
            }
        });
        for (int i = 0; i < KINDS.length; i++) {
            int kind = i;
            expect.sentence("IllegalStateException, when there are 200 (so with all expressions): " + KINDS[kind], () -> {
                twins.badState("the 201st", b -> filled(b, 200), (x, last) -> make(x, kind));
                Builder b = new Builder();
                filled(b, 199);
                expect.same("the 200th", 199, () -> make(b.house, kind));
                expect.badState("the next one", () -> make(b.house, kind));
            });
        }
        expect.sentence("EXPRESSIONS .. at most 200", () -> {
            Builder b = new Builder();
            int last = filled(b, 200);
            expect.same("the last one can be defined", 1, () -> b.house.define(last));
            expect.same("and run", 1, () -> b.house.run(1, 300));
            expect.same("and is what it was made", last, () -> b.house.value(0));
        });
    }

    private void placesOfLambdas() {
        expect.sentence("lambda: IllegalStateException, also when it would have too many places", () -> {
            twins.badState("of 60", b -> tower(b, 60), (x, e) -> x.lambda(e));
            Builder b = new Builder();
            int e = tower(b, 59);
            expect.same("of 59", e + 1, () -> b.house.lambda(e));
        });
    }

    private void placesOfApplications() {
        expect.sentence("apply: Likewise", () -> {
            for (int i = 1; i <= 59; i++) {
                int first = i;
                twins.badState("61: " + first + " and " + (60 - first), b -> tower(b, 60),
                        (x, e) -> x.apply(first - 1, 59 - first));
            }
            for (int i = 1; i <= 58; i++) {
                int first = i;
                Builder b = new Builder();
                tower(b, 60);
                expect.same("60: " + first + " and " + (59 - first), 60, () -> b.house.apply(first - 1, 58 - first));
                expect.badState("no place more", () -> b.house.lambda(60));
            }
            twins.badState("of two that have 60", b -> tower(b, 60), (x, e) -> x.apply(e, e));
        });
    }

    private void placesOfWhatStandsInIt() {
        expect.sentence("as often as that stands there", () -> {
            twins.badState("30 twice", b -> tower(b, 30), (x, e) -> x.apply(e, e));
            Builder b = new Builder();
            int e = tower(b, 29);
            expect.same("29 twice", e + 1, () -> b.house.apply(e, e));
            expect.same("59 and a lambda", e + 2, () -> b.house.lambda(e + 1));
            expect.badState("and another one", () -> b.house.lambda(e + 2));
        });
        expect.sentence("its own and those of what stands in it", () -> {
            twins.badState("doubled five times and once more", b -> doubled(b, 4), (x, e) -> x.apply(e, e));
            Builder b = new Builder();
            int thirtyOne = doubled(b, 4);
            expect.same("31 and 28", thirtyOne + 29, () -> b.house.apply(thirtyOne, tower(b, 28)));
            expect.badState("31 and 29", () -> b.house.apply(thirtyOne, b.house.lambda(thirtyOne + 28)));
        });
        expect.sentence("a USE of a method; a GIVEN definition: a place each", () -> {
            Builder b = new Builder();
            filled(b, 1);
            expect.same("of 57 places", 1, () -> b.house.define(b.sumOf(57)));
            int given = b.house.given(1);
            expect.same("59 around it", given + 59, () -> b.lambdas(59, given));
            int use = b.house.use(0, 0);
            expect.same("59 around it", use + 59, () -> b.lambdas(59, use));
            expect.badState("and one more", () -> b.house.lambda(use + 59));
        });
    }

    /** Applied to itself again and again: 1, 3, 7, 15, 31 places. */
    private static int doubled(Builder b, int times) {
        int e = b.number(1);
        for (int i = 0; i < times; i++) {
            e = b.house.apply(e, e);
        }
        return e;
    }

    private void primitivesAndLocals() {
        expect.sentence("primitive: IllegalArgumentException, when k is not 0 .. 7", () -> {
            DictionaryHouse x = new DictionaryHouse();
            for (int i = 0; i <= 7; i++) {
                int k = i;
                expect.same("primitive " + k, k, () -> x.primitive(k));
            }
            for (int no : new int[] {Integer.MIN_VALUE, -1, 8, 9, Integer.MAX_VALUE}) {
                twins.badArgument("primitive " + no, b -> filled(b, 3), (y, last) -> y.primitive(no));
                twins.badArgument("primitive " + no + ", full", b -> filled(b, 200), (y, last) -> y.primitive(no));
            }
        });
        expect.sentence("local: IllegalArgumentException, when k is not 0 .. 9", () -> {
            DictionaryHouse x = new DictionaryHouse();
            for (int i = 0; i <= 9; i++) {
                int k = i;
                expect.same("local " + k, k, () -> x.local(k));
            }
            for (int no : new int[] {Integer.MIN_VALUE, -1, 10, 11, Integer.MAX_VALUE}) {
                twins.badArgument("local " + no, b -> filled(b, 3), (y, last) -> y.local(no));
                twins.badArgument("local " + no + ", full", b -> filled(b, 200), (y, last) -> y.local(no));
            }
        });
    }

    private void lambdasAndApplications() {
        expect.sentence("lambda: IllegalArgumentException, when there is no such expression", () -> {
            for (int no : FAR_OFF) {
                twins.badArgument("of " + no, b -> filled(b, 3), (x, last) -> x.lambda(no));
                twins.badArgument("of " + no + ", full", b -> filled(b, 200), (x, last) -> x.lambda(no));
            }
            twins.badArgument("the first that is not there", b -> filled(b, 3), (x, last) -> x.lambda(last + 1));
            Builder b = new Builder();
            int last = filled(b, 3);
            expect.same("the last that is there", last + 1, () -> b.house.lambda(last));
        });
        expect.sentence("apply: IllegalArgumentException, when there is no such expression", () -> {
            for (int no : FAR_OFF) {
                twins.badArgument(no + " to one", b -> filled(b, 3), (x, last) -> x.apply(no, 0));
                twins.badArgument("one to " + no, b -> filled(b, 3), (x, last) -> x.apply(0, no));
                twins.badArgument("one to " + no + ", full", b -> filled(b, 200), (x, last) -> x.apply(0, no));
            }
            twins.badArgument("the first that is not there", b -> filled(b, 3), (x, last) -> x.apply(last + 1, last));
            twins.badArgument("to the first that is not there", b -> filled(b, 3), (x, last) -> x.apply(last, last + 1));
            twins.badArgument("ahead of its places", b -> tower(b, 60), (x, last) -> x.apply(last, last + 1));
            Builder b = new Builder();
            int last = filled(b, 3);
            expect.same("the last that is there", last + 1, () -> b.house.apply(last, last));
        });
    }

    /** Class 0 with three methods, class 1 below it with one, and a definition. */
    private static int withClasses(Builder b) {
        int c = b.classWith(-1, 2);
        b.house.method(c, 2);
        b.house.method(c, 2);
        b.classWith(c, 2);
        return b.house.define(b.number(4));
    }

    private void usesAndGiven() {
        expect.sentence("use: IllegalArgumentException, when there is none such", () -> {
            Builder b = new Builder();
            withClasses(b);
            for (int i = 0; i <= 2; i++) {
                int m = i;
                expect.same("method " + m, 1 + m, () -> b.house.use(0, m));
            }
            expect.same("of the last class", 4, () -> b.house.use(1, 0));
            for (int no : new int[] {Integer.MIN_VALUE, -1, 3, Integer.MAX_VALUE}) {
                twins.badArgument("method " + no, ExpressionBoundariesTest::withClasses, (x, g) -> x.use(0, no));
            }
            for (int no : new int[] {Integer.MIN_VALUE, -1, 2, 5, 6, Integer.MAX_VALUE}) {
                twins.badArgument("class " + no, ExpressionBoundariesTest::withClasses, (x, g) -> x.use(no, 0));
            }
            twins.badArgument("a method of the one above", ExpressionBoundariesTest::withClasses, (x, g) -> x.use(1, 1));
            twins.badArgument("ahead of 200", c -> filled(c, 200), (x, last) -> x.use(0, 1));
        });
        expect.sentence("given: IllegalArgumentException, when there is none such", () -> {
            Builder b = new Builder();
            int last = withClasses(b);
            expect.same("the last that is there", 1, () -> b.house.given(last));
            for (int no : new int[] {Integer.MIN_VALUE, -1, 1, 19, 20, Integer.MAX_VALUE}) {
                twins.badArgument("definition " + no, ExpressionBoundariesTest::withClasses, (x, g) -> x.given(no));
            }
            twins.badArgument("ahead of 200", c -> filled(c, 200), (x, e) -> x.given(1));
            Builder wrong = new Builder();
            expect.same("one that is wrong", -1, () -> wrong.house.define(wrong.local(0)));
            expect.badArgument("is none", () -> wrong.house.given(0));
        });
    }
}
