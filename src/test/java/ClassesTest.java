/** Promises 4 and 5: classes and their methods. */
public final class ClassesTest {
    public static void main(String[] args) {
        Expect expect = new Expect();
        classes(expect);
        methods(expect);
        methodsAndInstances(expect);
        expect.end();
    }

    private static void classes(Expect expect) {
        DictionaryHouse x = new DictionaryHouse();
        expect.badArgument("none above yet", () -> x.type(0));
        expect.same("the first", 0, () -> x.type(-1));
        expect.badArgument("not below itself", () -> x.type(1));
        expect.badArgument("no such", () -> x.type(-2));
        for (int c = 1; c < 6; c++) {
            int above = c - 1;
            expect.same("class " + c, c, () -> x.type(above));
        }
        expect.badState("the seventh", () -> x.type(-1));
        expect.badState("the seventh, below another", () -> x.type(5));
        expect.badArgument("no such class goes ahead", () -> x.type(6));
        expect.badArgument("no such class goes ahead", () -> x.type(Integer.MIN_VALUE));
    }

    private static void methods(Expect expect) {
        Builder b = new Builder();
        DictionaryHouse x = b.house;
        int c = x.type(-1);
        int other = x.type(c);
        int both = x.function(2, 3);
        int listOfInt = x.list(0);
        int deep = x.list(b.arrow(0, x.list(2), 1));
        expect.badArgument("INT", () -> x.method(c, 0));
        expect.badArgument("BOOL", () -> x.method(c, 1));
        expect.badArgument("b", () -> x.method(c, 3));
        expect.badArgument("h", () -> x.method(c, 9));
        expect.badArgument("a -> b", () -> x.method(c, both));
        expect.badArgument("list of INT", () -> x.method(c, listOfInt));
        expect.badArgument("no such type", () -> x.method(c, 39));
        expect.badArgument("no such type", () -> x.method(c, -1));
        expect.badArgument("no such class", () -> x.method(2, 2));
        expect.badArgument("no such class", () -> x.method(-1, 2));
        expect.same("a itself", 0, () -> x.method(c, 2));
        expect.same("a deep in it", 1, () -> x.method(c, deep));
        expect.same("the same type again", 2, () -> x.method(c, 2));
        expect.badState("the fourth", () -> x.method(c, 2));
        expect.badArgument("the type goes ahead", () -> x.method(c, 0));
        expect.same("each class has its own", 0, () -> x.method(other, 2));
    }

    private static void methodsAndInstances(Expect expect) {
        Builder b = new Builder();
        DictionaryHouse x = b.house;
        for (int shape = 0; shape < 3; shape++) {
            int s = shape;
            int c = x.type(-1);
            expect.same("an instance without methods", 0, () -> x.instance(c, s, -1, -1, -1, -1));
            expect.badState("a method after an instance", () -> x.method(c, 2));
            expect.badArgument("the type goes ahead", () -> x.method(c, 1));
        }
        int c = x.type(-1);
        x.method(c, 2);
        int truth = b.trueOne();
        expect.same("a wrong instance", -1, () -> b.instance(c, 0, -1, truth));
        expect.same("leaves room for methods", 1, () -> x.method(c, 2));
    }
}
