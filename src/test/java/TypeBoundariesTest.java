/** The boundaries of promises 1 to 3 and of TYPES among the terms, a test for each sentence. */
public final class TypeBoundariesTest {
    private static final int[] FAR_OFF = {Integer.MIN_VALUE, -2, -1, 40, 41, Integer.MAX_VALUE};

    private final Expect expect = new Expect();
    private final Twins twins = new Twins(expect);

    public static void main(String[] args) {
        TypeBoundariesTest test = new TypeBoundariesTest();
        test.newObject();
        test.numbers();
        test.most();
        test.refused();
        test.expect.end();
    }

    private static int nothing(Builder b) {
        return 0;
    }

    /** Forty types: INT -> BOOL, and lists from there on. */
    private static int full(Builder b) {
        b.house.function(0, 1);
        b.fillTypesTo(40);
        return 39;
    }

    private static int almostFull(Builder b) {
        b.house.function(0, 1);
        b.fillTypesTo(39);
        return 38;
    }

    private void newObject() {
        expect.sentence("The constants: `NONE = -1`", () -> expect.same("NONE", -1, () -> DictionaryHouse.NONE));
        expect.sentence("No classes", () -> {
            twins.badArgument("is", TypeBoundariesTest::nothing, (x, n) -> x.is(0, 0) ? 1 : 0);
            twins.badArgument("type below 0", TypeBoundariesTest::nothing, (x, n) -> x.type(0));
            twins.badArgument("method", TypeBoundariesTest::nothing, (x, n) -> x.method(0, 2));
            twins.badArgument("use", TypeBoundariesTest::nothing, (x, n) -> x.use(0, 0));
            twins.badArgument("instance", TypeBoundariesTest::nothing, (x, n) -> x.instance(0, 0, -1, 0, 0, 0));
            expect.same("the first one", 0, () -> new DictionaryHouse().type(-1));
        });
        expect.sentence("no expressions", () -> {
            twins.badArgument("lambda", TypeBoundariesTest::nothing, (x, n) -> x.lambda(0));
            twins.badArgument("apply", TypeBoundariesTest::nothing, (x, n) -> x.apply(0, 0));
            twins.badArgument("define", TypeBoundariesTest::nothing, (x, n) -> x.define(0));
            expect.same("the first one", 0, () -> new DictionaryHouse().number(3));
        });
        expect.sentence("no definitions", () -> {
            twins.badArgument("given", TypeBoundariesTest::nothing, (x, n) -> x.given(0));
            twins.badArgument("scheme", TypeBoundariesTest::nothing, (x, n) -> x.scheme(0, 0));
            twins.badArgument("run", TypeBoundariesTest::nothing, (x, n) -> x.run(0, 1));
            twins.badArgument("value", TypeBoundariesTest::nothing, (x, n) -> x.value(0));
            twins.badArgument("value(NONE)", TypeBoundariesTest::nothing, (x, n) -> x.value(-1));
            DictionaryHouse x = new DictionaryHouse();
            expect.same("the first one", 0, () -> x.define(x.number(3)));
        });
        expect.sentence("types 0 .. 9", () -> {
            for (int i = 0; i <= 9; i++) {
                int t = i;
                expect.same("type " + t + " is there", 10, () -> new DictionaryHouse().list(t));
                expect.same("from type " + t, 10, () -> new DictionaryHouse().function(t, 0));
                expect.same("to type " + t, 10, () -> new DictionaryHouse().function(0, t));
            }
            twins.badArgument("no type 10", TypeBoundariesTest::nothing, (x, n) -> x.list(10));
            twins.badArgument("no type -1", TypeBoundariesTest::nothing, (x, n) -> x.list(-1));
        });
        expect.sentence("A new object", () -> {
            full(new Builder());
            expect.same("each has its own types", 10, () -> new DictionaryHouse().list(0));
        });
    }

    private void numbers() {
        expect.sentence("from 10 on LISTS of a type and FUNCTIONS from a type to one, as they are made", () -> {
            DictionaryHouse x = new DictionaryHouse();
            for (int i = 10; i < 40; i += 2) {
                int next = i;
                expect.same("a list", next, () -> x.list(next - 1));
                expect.same("a function", next + 1, () -> x.function(next, 0));
            }
        });
        expect.sentence("the same one has the same number", () -> {
            DictionaryHouse x = new DictionaryHouse();
            for (int again = 0; again < 3; again++) {
                expect.same("list of INT", 10, () -> x.list(0));
                expect.same("INT -> INT is no list of INT", 11, () -> x.function(0, 0));
                expect.same("list of list of INT", 12, () -> x.list(10));
                expect.same("list of INT -> INT", 13, () -> x.function(10, 0));
                expect.same("the other way is another", 14, () -> x.function(0, 10));
                expect.same("of another variable is another", 15, () -> x.list(2));
                expect.same("of another variable is another", 16, () -> x.list(3));
            }
            expect.same("a definition's type, too", 15, () -> x.scheme(x.define(x.primitive(5)), 0));
            expect.same("and none was made by it", 17, () -> x.list(4));
        });
        expect.sentence("the same one has the same number", () -> {
            DictionaryHouse x = new DictionaryHouse();
            expect.same("made by a definition", 10, () -> x.scheme(x.define(x.primitive(5)), 0));
            expect.same("asked for later on", 10, () -> x.list(2));
        });
    }

    private void most() {
        expect.sentence("at most 40 in all", () -> {
            Builder lists = new Builder();
            almostFull(lists);
            expect.same("the fortieth, a list", 39, () -> lists.house.list(38));
            expect.badState("the next list", () -> lists.house.list(39));
            Builder functions = new Builder();
            almostFull(functions);
            expect.same("the fortieth, a function", 39, () -> functions.house.function(38, 38));
            expect.badState("the next function", () -> functions.house.function(39, 39));
            Builder defined = new Builder();
            almostFull(defined);
            expect.same("the fortieth, a definition's", 39,
                    () -> defined.house.scheme(defined.house.define(defined.nil()), 0));
            expect.badState("the next one", () -> defined.house.list(39));
        });
        expect.sentence("list: IllegalStateException, when it would be new and there are 40", () -> {
            twins.badState("of the last one", TypeBoundariesTest::full, (x, last) -> x.list(last));
            twins.badState("of INT", TypeBoundariesTest::full, (x, last) -> x.list(0));
            Builder b = new Builder();
            full(b);
            expect.same("one that is not new", 39, () -> b.house.list(38));
            expect.same("the first that is not new", 11, () -> b.house.list(1));
        });
        expect.sentence("function: Likewise", () -> {
            twins.badState("of the last one", TypeBoundariesTest::full, (x, last) -> x.function(last, last));
            twins.badState("BOOL -> INT", TypeBoundariesTest::full, (x, last) -> x.function(1, 0));
            Builder b = new Builder();
            full(b);
            expect.same("one that is not new", 10, () -> b.house.function(0, 1));
        });
    }

    private void refused() {
        expect.sentence("list: IllegalArgumentException, when there is no such type", () -> {
            for (int no : FAR_OFF) {
                twins.badArgument("list of " + no, TypeBoundariesTest::nothing, (x, n) -> x.list(no));
                twins.badArgument("list of " + no + ", full", TypeBoundariesTest::full, (x, n) -> x.list(no));
            }
            twins.badArgument("the first that is not there", TypeBoundariesTest::almostFull, (x, last) -> x.list(last + 1));
            Builder b = new Builder();
            int last = almostFull(b);
            expect.same("the last that is there", last + 1, () -> b.house.list(last));
        });
        expect.sentence("function: IllegalArgumentException, when there is no such type", () -> {
            for (int no : FAR_OFF) {
                twins.badArgument("from " + no, TypeBoundariesTest::nothing, (x, n) -> x.function(no, 0));
                twins.badArgument("to " + no, TypeBoundariesTest::nothing, (x, n) -> x.function(0, no));
                twins.badArgument("from " + no + ", full", TypeBoundariesTest::full, (x, n) -> x.function(no, 0));
                twins.badArgument("to " + no + ", full", TypeBoundariesTest::full, (x, n) -> x.function(0, no));
            }
            twins.badArgument("from the first that is not there", TypeBoundariesTest::almostFull,
                    (x, last) -> x.function(last + 1, last));
            twins.badArgument("to the first that is not there", TypeBoundariesTest::almostFull,
                    (x, last) -> x.function(last, last + 1));
            Builder b = new Builder();
            int last = almostFull(b);
            expect.same("the last that is there", last + 1, () -> b.house.function(last, last));
        });
    }
}
