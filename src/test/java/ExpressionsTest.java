/** Promises 6 to 12: expressions, their arguments, how many there can be and of how many places. */
public final class ExpressionsTest {
    public static void main(String[] args) {
        Expect expect = new Expect();
        numbers(expect);
        uses(expect);
        places(expect);
        placesOfGiven(expect);
        full(expect);
        expect.end();
    }

    private static void numbers(Expect expect) {
        DictionaryHouse x = new DictionaryHouse();
        expect.same("a number", 0, () -> x.number(Integer.MIN_VALUE));
        expect.same("the same number is a new expression", 1, () -> x.number(Integer.MIN_VALUE));
        for (int k = 0; k < 8; k++) {
            int which = k;
            expect.same("primitive " + k, 2 + k, () -> x.primitive(which));
        }
        expect.badArgument("primitive 8", () -> x.primitive(8));
        expect.badArgument("primitive -1", () -> x.primitive(-1));
        for (int k = 0; k < 10; k++) {
            int which = k;
            expect.same("local " + k, 10 + k, () -> x.local(which));
        }
        expect.badArgument("local 10", () -> x.local(10));
        expect.badArgument("local -1", () -> x.local(-1));
        expect.same("a lambda", 20, () -> x.lambda(10));
        expect.same("an application", 21, () -> x.apply(20, 0));
        expect.same("of one to itself", 22, () -> x.apply(0, 0));
        int[] bad = {-1, 23, 200, Integer.MAX_VALUE, Integer.MIN_VALUE};
        for (int e : bad) {
            expect.badArgument("lambda of " + e, () -> x.lambda(e));
            expect.badArgument("application of " + e, () -> x.apply(e, 0));
            expect.badArgument("application to " + e, () -> x.apply(0, e));
        }
        expect.same("refused calls made none", 23, () -> x.number(1));
    }

    private static void uses(Expect expect) {
        DictionaryHouse x = new DictionaryHouse();
        expect.badArgument("no class", () -> x.use(0, 0));
        int c = x.type(-1);
        expect.badArgument("no method", () -> x.use(c, 0));
        x.method(c, 2);
        expect.same("a use", 0, () -> x.use(c, 0));
        expect.badArgument("no such method", () -> x.use(c, 1));
        expect.badArgument("no such method", () -> x.use(c, -1));
        expect.badArgument("no such class", () -> x.use(1, 0));
        expect.badArgument("no such class", () -> x.use(-1, 0));
        int lower = x.type(c);
        expect.badArgument("methods of the one above are not its own", () -> x.use(lower, 0));
        expect.badArgument("no definition", () -> x.given(0));
        x.define(x.number(4));
        expect.same("a given one", 2, () -> x.given(0));
        expect.badArgument("no such definition", () -> x.given(1));
        expect.badArgument("no such definition", () -> x.given(-1));
    }

    private static void places(Expect expect) {
        Builder b = new Builder();
        DictionaryHouse x = b.house;
        int sixty = b.lambdas(59, b.number(1));
        int count = sixty + 1;
        expect.badState("sixty-one places by a lambda", () -> x.lambda(sixty));
        int thirty = sixty - 30;
        int twentyNine = sixty - 31;
        expect.badState("sixty-one places by an application", () -> x.apply(thirty, thirty));
        expect.same("sixty places", count, () -> x.apply(thirty, twentyNine));
        expect.badState("what stands twice counts twice", () -> x.apply(count, count));
        expect.badArgument("no such expression goes ahead", () -> x.apply(sixty, count + 1));
        expect.same("refused calls made none", count + 1, () -> x.lambda(twentyNine));
    }

    private static void placesOfGiven(Expect expect) {
        Builder b = new Builder();
        DictionaryHouse x = b.house;
        int sum = b.number(1);
        for (int i = 0; i < 14; i++) {
            sum = b.plus(sum, 0);
        }
        x.define(sum);
        int given = x.given(0);
        expect.same("a given one is one place, whatever it is of", given + 59, () -> b.lambdas(59, given));
    }

    private static void full(Expect expect) {
        Builder b = new Builder();
        DictionaryHouse x = b.house;
        int c = b.classWith(-1, 2);
        x.number(0);
        x.define(0);
        for (int e = 1; e < 199; e++) {
            x.number(e);
        }
        expect.same("the last one", 199, () -> x.lambda(0));
        expect.badState("number", () -> x.number(1));
        expect.badState("primitive", () -> x.primitive(1));
        expect.badState("local", () -> x.local(1));
        expect.badState("lambda", () -> x.lambda(1));
        expect.badState("application", () -> x.apply(1, 1));
        expect.badState("use", () -> x.use(c, 0));
        expect.badState("given", () -> x.given(0));
        expect.badArgument("primitive, wrong", () -> x.primitive(8));
        expect.badArgument("local, wrong", () -> x.local(10));
        expect.badArgument("lambda, wrong", () -> x.lambda(200));
        expect.badArgument("application, wrong", () -> x.apply(200, 0));
        expect.badArgument("use, wrong", () -> x.use(c, 1));
        expect.badArgument("given, wrong", () -> x.given(1));
        expect.same("what is there can be used", 1, () -> x.define(199));
    }
}
