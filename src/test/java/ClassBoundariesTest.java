/** The boundaries of promises 4 and 5 and of CLASSES among the terms, a test for each sentence. */
public final class ClassBoundariesTest {
    private static final int[] FAR_OFF = {Integer.MIN_VALUE, -2, 6, 7, Integer.MAX_VALUE};

    private final Expect expect = new Expect();
    private final Twins twins = new Twins(expect);

    public static void main(String[] args) {
        ClassBoundariesTest test = new ClassBoundariesTest();
        test.classes();
        test.methods();
        test.typesOfMethods();
        test.methodsRefused();
        test.expect.end();
    }

    private static int classes(Builder b, int many) {
        for (int c = 0; c < many; c++) {
            b.house.type(c - 1);
        }
        return many - 1;
    }

    /** A class with so many methods. */
    private static int withMethods(Builder b, int many) {
        int c = b.house.type(-1);
        for (int m = 0; m < many; m++) {
            b.house.method(c, 2);
        }
        return c;
    }

    private void classes() {
        expect.sentence("CLASSES are 0 .. 5, as they are made", () -> {
            DictionaryHouse x = new DictionaryHouse();
            for (int i = 0; i <= 5; i++) {
                int c = i;
                expect.same("class " + c, c, () -> x.type(-1));
            }
            expect.badState("the seventh", () -> x.type(-1));
        });
        expect.sentence("each with one ABOVE it (a lower number) or none", () -> {
            DictionaryHouse x = new DictionaryHouse();
            expect.badArgument("not below itself", () -> x.type(0));
            expect.same("none above", 0, () -> x.type(-1));
            expect.badArgument("not below itself", () -> x.type(1));
            expect.same("below the first", 1, () -> x.type(0));
            expect.same("another below the first", 2, () -> x.type(0));
            expect.same("below the latest", 3, () -> x.type(2));
            expect.badArgument("not below the next one", () -> x.type(5));
        });
        expect.sentence("type: IllegalArgumentException, when there is no such class", () -> {
            for (int no : FAR_OFF) {
                twins.badArgument("below " + no, b -> classes(b, 3), (x, c) -> x.type(no));
                twins.badArgument("below " + no + ", full", b -> classes(b, 6), (x, c) -> x.type(no));
            }
            twins.badArgument("the first that is not there", b -> classes(b, 3), (x, c) -> x.type(c + 1));
            Builder b = new Builder();
            int last = classes(b, 3);
            expect.same("the last that is there", last + 1, () -> b.house.type(last));
        });
        expect.sentence("type: IllegalStateException, when there are 6", () -> {
            twins.badState("with none above", b -> classes(b, 6), (x, c) -> x.type(-1));
            twins.badState("below the first", b -> classes(b, 6), (x, c) -> x.type(0));
            twins.badState("below the last", b -> classes(b, 6), (x, c) -> x.type(c));
            Builder b = new Builder();
            classes(b, 5);
            expect.same("when there are 5", 5, () -> b.house.type(-1));
        });
    }

    private void methods() {
        expect.sentence("METHODS 0 .. 2", () -> {
            DictionaryHouse x = new DictionaryHouse();
            x.type(-1);
            x.type(0);
            for (int i = 0; i <= 2; i++) {
                int m = i;
                expect.same("method " + m, m, () -> x.method(1, 2));
            }
            expect.badState("the fourth", () -> x.method(1, 2));
            expect.same("another class has its own", 0, () -> x.method(0, 2));
        });
        expect.sentence("method: IllegalStateException, when it has 3", () -> {
            twins.badState("the fourth", b -> withMethods(b, 3), (x, c) -> x.method(c, 2));
            Builder b = new Builder();
            int c = withMethods(b, 2);
            expect.same("the third", 2, () -> b.house.method(c, 2));
        });
        expect.sentence("method: IllegalStateException, when it has .. an instance", () -> {
            for (int i = 0; i < 3; i++) {
                int shape = i;
                twins.badState("for shape " + shape, b -> withInstance(b, shape), (x, c) -> x.method(c, 2));
                Builder b = new Builder();
                int c = withInstance(b, shape);
                expect.same("an instance of another class", 0, () -> b.house.method(c + 1, 2));
                expect.same("an instance of the class above it", 0, () -> b.house.method(c + 2, 2));
            }
            Builder b = new Builder();
            int c = withMethods(b, 1);
            expect.same("an instance that is wrong", -1, () -> b.instance(c, 0, -1, b.trueOne()));
            expect.same("is none", 1, () -> b.house.method(c, 2));
        });
    }

    /** A class without methods and with an instance, one beside it, and one below it. */
    private static int withInstance(Builder b, int shape) {
        int c = b.house.type(-1);
        b.house.type(-1);
        b.house.type(c);
        b.house.instance(c, shape, -1, 0, 0, 0);
        return c;
    }

    /** Types by which the boundary goes: 10 list of a, 11 of b, 12 of INT, 13 a -> a, and so on. */
    private static int types(Builder b) {
        DictionaryHouse x = b.house;
        x.list(2);
        x.list(3);
        x.list(0);
        x.function(2, 2);
        x.function(2, 3);
        x.function(3, 2);
        x.function(0, 2);
        x.function(2, 0);
        x.function(0, 1);
        x.list(x.list(x.function(12, 10)));
        x.list(x.list(x.function(10, 9)));
        return x.type(-1);
    }

    private void typesOfMethods() {
        int[] asSaid = {2, 10, 13, 16, 17, 19, 20, 21};
        int[] notSo = {0, 1, 3, 4, 5, 6, 7, 8, 9, 11, 12, 14, 15, 18, 22, 23, 24};
        expect.sentence("each of a type in which a, and no other variable, stands", () -> {
            for (int t : asSaid) {
                Builder b = new Builder();
                int c = types(b);
                expect.same("type " + t, 0, () -> b.house.method(c, t));
            }
        });
        expect.sentence("method: IllegalArgumentException, when .. the type is not as said", () -> {
            for (int t : notSo) {
                twins.badArgument("type " + t, ClassBoundariesTest::types, (x, c) -> x.method(c, t));
            }
            twins.badArgument("ahead of what it has", b -> withMethods(b, 3), (x, c) -> x.method(c, 3));
            twins.badArgument("ahead of its instance", b -> withInstance(b, 0), (x, c) -> x.method(c, 0));
        });
    }

    private void methodsRefused() {
        expect.sentence("method: IllegalArgumentException, when there is no such class", () -> {
            for (int no : FAR_OFF) {
                twins.badArgument("class " + no, b -> withMethods(b, 1), (x, c) -> x.method(no, 2));
            }
            twins.badArgument("class NONE", b -> withMethods(b, 1), (x, c) -> x.method(-1, 2));
            twins.badArgument("the first that is not there", b -> classes(b, 3), (x, c) -> x.method(c + 1, 2));
            Builder b = new Builder();
            int last = classes(b, 6);
            expect.same("the last that is there", 0, () -> b.house.method(last, 2));
        });
        expect.sentence("method: IllegalArgumentException, when there is no such .. type", () -> {
            for (int no : new int[] {Integer.MIN_VALUE, -1, 10, 39, 40, Integer.MAX_VALUE}) {
                twins.badArgument("type " + no, b -> withMethods(b, 1), (x, c) -> x.method(c, no));
            }
            twins.badArgument("ahead of what it has", b -> withMethods(b, 3), (x, c) -> x.method(c, 10));
            Builder b = new Builder();
            int c = withMethods(b, 0);
            int last = b.house.list(2);
            expect.badArgument("the first that is not there", () -> b.house.method(c, last + 1));
            expect.same("the last that is there", 0, () -> b.house.method(c, last));
        });
    }
}
