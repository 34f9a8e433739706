/** Promises 2 and 3: the numbers of lists and functions. */
public final class TypesTest {
    public static void main(String[] args) {
        Expect expect = new Expect();
        numbers(expect);
        full(expect);
        expect.end();
    }

    private static void numbers(Expect expect) {
        DictionaryHouse x = new DictionaryHouse();
        expect.same("the lists of INT", 10, () -> x.list(0));
        expect.same("the lists of BOOL", 11, () -> x.list(1));
        expect.same("the same lists", 10, () -> x.list(0));
        expect.same("INT -> BOOL", 12, () -> x.function(0, 1));
        expect.same("BOOL -> INT is another", 13, () -> x.function(1, 0));
        expect.same("the same functions", 12, () -> x.function(0, 1));
        expect.same("functions from a type to itself", 14, () -> x.function(0, 0));
        expect.same("lists of functions", 15, () -> x.list(12));
        expect.same("functions of lists", 16, () -> x.function(10, 15));
        expect.same("lists of the last variable", 17, () -> x.list(9));
        int[] bad = {-1, -2, 18, 40, Integer.MAX_VALUE, Integer.MIN_VALUE};
        for (int t : bad) {
            expect.badArgument("list of " + t, () -> x.list(t));
            expect.badArgument("function from " + t, () -> x.function(t, 0));
            expect.badArgument("function to " + t, () -> x.function(0, t));
        }
        expect.same("refused calls made none", 18, () -> x.list(17));
    }

    private static void full(Expect expect) {
        Builder b = new Builder();
        DictionaryHouse x = b.house;
        int function = x.function(0, 1);
        b.fillTypesTo(39);
        expect.same("the fortieth", 39, () -> x.list(38));
        expect.badState("a new list", () -> x.list(39));
        expect.badState("a new function", () -> x.function(39, 39));
        expect.badState("a new function of old ones", () -> x.function(1, 0));
        expect.same("an old list", 39, () -> x.list(38));
        expect.same("an old function", function, () -> x.function(0, 1));
        expect.badArgument("no such type goes ahead", () -> x.list(40));
        expect.badArgument("no such type goes ahead", () -> x.function(40, 0));
    }
}
