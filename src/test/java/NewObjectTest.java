/** Promise 1: what a new object has and has not. */
public final class NewObjectTest {
    public static void main(String[] args) {
        Expect expect = new Expect();
        DictionaryHouse x = new DictionaryHouse();
        expect.same("NONE", -1, () -> DictionaryHouse.NONE);
        expect.badArgument("no class", () -> x.is(0, 0));
        expect.badArgument("no class above", () -> x.type(0));
        expect.badArgument("no class for a method", () -> x.method(0, 2));
        expect.badArgument("no class to use", () -> x.use(0, 0));
        expect.badArgument("no class for an instance", () -> x.instance(0, 0, -1, 0, 0, 0));
        expect.badArgument("no expression", () -> x.lambda(0));
        expect.badArgument("no expression to apply", () -> x.apply(0, 0));
        expect.badArgument("no expression to define", () -> x.define(0));
        expect.badArgument("no definition given", () -> x.given(0));
        expect.badArgument("no definition's scheme", () -> x.scheme(0, 0));
        expect.badArgument("no definition to run", () -> x.run(0, 1));
        expect.badArgument("no run", () -> x.value(-1));
        expect.badArgument("no run's number", () -> x.value(0));
        expect.badArgument("no type 10", () -> x.list(10));
        expect.same("the first new type", 10, () -> x.list(9));
        expect.same("the first class", 0, () -> x.type(-1));
        expect.same("the first expression", 0, () -> x.number(5));
        expect.same("the first definition", 0, () -> x.define(0));

        DictionaryHouse y = new DictionaryHouse();
        expect.badArgument("another object has its own classes", () -> y.is(0, 0));
        expect.badArgument("and its own types", () -> y.list(10));
        expect.end();
    }
}
