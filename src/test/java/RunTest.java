/** Promises 17 and 18: what definitions come to, in how many steps. */
public final class RunTest {
    public static void main(String[] args) {
        Expect expect = new Expect();
        wrongCalls(expect);
        values(expect);
        primitives(expect);
        order(expect);
        lists(expect);
        folds(expect);
        limits(expect);
        latest(expect);
        typesThatStandThere(expect);
        contextsOfContexts(expect);
        growingTypes(expect);
        noEnd(expect);
        expect.end();
    }

    /** Runs it and holds the steps and all that it came to against what is due. */
    private static void comesTo(Expect expect, String what, Builder b, int e, int steps, int... due) {
        DictionaryHouse x = b.house;
        int g = x.define(e);
        expect.same(what + ": steps", steps, () -> x.run(g, 300));
        expect.same(what + ": how many", due.length, () -> x.value(-1));
        for (int i = 0; i < due.length; i++) {
            int at = i;
            expect.same(what + ": value " + i, due[i], () -> x.value(at));
        }
        expect.badArgument(what + ": no more", () -> x.value(due.length));
        expect.same(what + ": just enough", steps, () -> x.run(g, steps));
        if (steps > 1) {
            expect.same(what + ": not enough", -1, () -> x.run(g, steps - 1));
        }
    }

    private static void wrongCalls(Expect expect) {
        Builder b = new Builder();
        DictionaryHouse x = b.house;
        int c = b.classWith(-1, 2);
        x.define(b.number(1));
        x.define(x.use(c, 0));
        x.define(b.nil());
        x.define(x.primitive(2));
        x.define(b.listOf(b.listOf(b.number(1))));
        x.define(b.listOf(x.primitive(2)));
        expect.badArgument("no such definition", () -> x.run(-1, 10));
        expect.badArgument("no such definition", () -> x.run(6, 10));
        expect.badArgument("no steps", () -> x.run(0, 0));
        expect.badArgument("fewer than none", () -> x.run(0, -1));
        expect.badArgument("too many", () -> x.run(0, 301));
        expect.badArgument("steps go ahead", () -> x.run(1, 301));
        expect.badState("conditions", () -> x.run(1, 10));
        expect.badState("a list of a", () -> x.run(2, 10));
        expect.badState("a function", () -> x.run(3, 10));
        expect.badState("a list of lists", () -> x.run(4, 10));
        expect.badState("a list of functions", () -> x.run(5, 10));
        expect.badArgument("none went through", () -> x.value(-1));
        expect.same("one step", 1, () -> x.run(0, 1));
        expect.same("the most steps", 1, () -> x.run(0, 300));
        expect.badArgument("no such what", () -> x.value(-2));
        expect.badArgument("no such what", () -> x.value(Integer.MIN_VALUE));
        expect.badArgument("no such what", () -> x.value(Integer.MAX_VALUE));
        expect.badState("refused", () -> x.run(3, 10));
        expect.same("a refused one leaves what was", 1, () -> x.value(0));
    }

    private static void values(Expect expect) {
        Builder b = new Builder();
        DictionaryHouse x = b.house;
        comesTo(expect, "a number", b, b.number(-7), 1, -7);
        comesTo(expect, "TRUE", b, b.trueOne(), 1, 1);
        comesTo(expect, "FALSE", b, b.falseOne(), 1, 0);
        comesTo(expect, "a lambda and its argument", b, b.call(b.lambdas(1, b.local(0)), b.number(4)), 4, 4);
        int second = b.call(b.lambdas(2, b.local(0)), b.number(4), b.number(5));
        comesTo(expect, "the second argument", b, second, 7, 5);
        int first = b.call(b.lambdas(2, b.local(1)), b.number(4), b.number(5));
        comesTo(expect, "the first argument", b, first, 7, 4);
        int given = x.given(0);
        comesTo(expect, "a given one", b, given, 2, -7);
        comesTo(expect, "given twice", b, b.plus(given, given), 7, -14);
        int apply = b.lambdas(2, b.call(b.local(1), b.local(0)));
        int addTo = b.lambdas(1, b.call(x.primitive(2), b.local(0)));
        comesTo(expect, "functions as values", b, b.call(apply, b.call(addTo, b.number(2)), b.number(3)), 14, 5);
        int kept = b.call(b.lambdas(1, b.lambdas(1, b.plus(b.local(0), b.local(1)))), b.number(10));
        comesTo(expect, "what stood around a lambda", b, b.call(kept, b.number(1)), 11, 11);
    }

    private static void primitives(Expect expect) {
        Builder b = new Builder();
        int most = b.number(Integer.MAX_VALUE);
        int least = b.number(Integer.MIN_VALUE);
        comesTo(expect, "PLUS", b, b.plus(b.number(2), b.number(3)), 5, 5);
        comesTo(expect, "PLUS wraps", b, b.plus(most, b.number(1)), 5, Integer.MIN_VALUE);
        comesTo(expect, "PLUS wraps below", b, b.plus(least, least), 5, 0);
        comesTo(expect, "LESS", b, b.less(b.number(2), b.number(3)), 5, 1);
        comesTo(expect, "LESS of the same", b, b.less(b.number(3), b.number(3)), 5, 0);
        comesTo(expect, "LESS the other way", b, b.less(b.number(3), b.number(2)), 5, 0);
        comesTo(expect, "LESS does not wrap", b, b.less(least, most), 5, 1);
        comesTo(expect, "IF", b, b.choose(b.trueOne(), b.number(3), b.number(2)), 7, 3);
        comesTo(expect, "IF not", b, b.choose(b.falseOne(), b.number(3), b.number(2)), 7, 2);
        int sums = b.choose(b.trueOne(), b.number(3), b.plus(b.number(1), b.number(1)));
        comesTo(expect, "IF has both evaluated", b, sums, 11, 3);
        int chosen = b.choose(b.falseOne(), b.house.primitive(3), b.house.primitive(3));
        comesTo(expect, "IF of primitives", b, b.call(chosen, b.number(1), b.number(2)), 11, 1);
    }

    /** Which of two that do not end in time is met first cannot be seen, but the steps can. */
    private static void order(Expect expect) {
        Builder b = new Builder();
        DictionaryHouse x = b.house;
        int unused = b.plus(b.number(1), b.number(2));
        comesTo(expect, "an argument that is not used", b, b.call(b.lambdas(1, b.number(9)), unused), 8, 9);
        int twice = b.call(b.lambdas(1, b.plus(b.local(0), b.local(0))), unused);
        comesTo(expect, "an argument is evaluated once", b, twice, 12, 6);
        int never = b.lambdas(1, unused);
        comesTo(expect, "a body that is not called", b, b.call(b.lambdas(1, b.number(9)), never), 4, 9);
        int c = b.classWith(-1, 2);
        b.instance(c, 0, -1, b.plus(b.number(20), b.number(30)));
        int use = x.use(c, 0);
        comesTo(expect, "a use is evaluated anew", b, b.plus(use, use), 15, 100);
    }

    private static void lists(Expect expect) {
        Builder b = new Builder();
        int numbers = b.listOf(b.number(4), b.number(-5), b.number(6));
        comesTo(expect, "numbers", b, numbers, 13, 4, -5, 6);
        comesTo(expect, "truth values", b, b.listOf(b.trueOne(), b.falseOne()), 9, 1, 0);
        int none = b.call(b.lambdas(1, b.fold(b.house.primitive(6), b.nil(), b.local(0))),
                b.choose(b.trueOne(), b.nil(), b.listOf(b.number(1))));
        comesTo(expect, "an empty list", b, none, 20);
        expect.same("how many are in it", 0, () -> b.house.value(-1));
    }

    private static void folds(Expect expect) {
        Builder b = new Builder();
        DictionaryHouse x = b.house;
        int plus = x.primitive(2);
        int cons = x.primitive(6);
        int three = b.listOf(b.number(1), b.number(2), b.number(3));
        comesTo(expect, "a sum", b, b.fold(plus, b.number(10), three), 19 + 3, 16);
        comesTo(expect, "a copy", b, b.fold(cons, b.nil(), three), 19 + 3, 1, 2, 3);
        int last = b.lambdas(2, b.local(1));
        comesTo(expect, "what comes last is of the first", b, b.fold(last, b.number(0), three), 19 + 3 * 3, 1);
        int begin = b.lambdas(2, b.local(0));
        comesTo(expect, "what came out so far", b, b.fold(begin, b.number(8), three), 19 + 3 * 3, 8);
        int digits = b.lambdas(2, b.plus(b.local(1), b.plus(b.local(0), b.local(0))));
        int weighted = b.fold(digits, b.number(0), three);
        comesTo(expect, "from the last to the first", b, weighted, 19 + 3 * 11, 1 + 2 * (2 + 2 * 3));
        comesTo(expect, "of an empty list", b, b.fold(plus, b.number(8), b.nil()), 7, 8);
        int join = b.call(x.primitive(7), cons);
        int lists = b.listOf(b.listOf(b.number(1)), b.listOf(b.number(2), b.number(3)));
        // FOLD CONS of an element is what the outer one calls: it begins with the rest, and adds to that.
        comesTo(expect, "a fold by a fold", b, b.fold(join, b.nil(), lists), 33, 2, 3, 1);
        int adders = b.listOf(b.call(plus, b.number(1)), b.call(plus, b.number(10)));
        int call = b.lambdas(2, b.call(b.local(1), b.local(0)));
        comesTo(expect, "a list of functions", b, b.fold(call, b.number(5), adders), 19 + 2 * 5, 16);
    }

    private static void limits(Expect expect) {
        Builder b = new Builder();
        DictionaryHouse x = b.house;
        int five = b.listOf(b.number(1), b.number(2), b.number(3), b.number(4), b.number(5));
        int step = b.lambdas(2, b.cons(b.local(1), b.cons(b.local(1), b.local(0))));
        int e = five;
        int g = DictionaryHouse.NONE;
        for (int i = 0; i < 3; i++) {
            g = x.define(e);
            e = b.fold(step, b.nil(), x.given(g));
        }
        int most = g;
        // 21 for five; each doubling: 6 around it, the given one, and 11 with the step for each.
        int first = 7 + 21 + 5 * 11;
        int second = 7 + first + 10 * 11;
        expect.same("doubled twice", second, () -> x.run(most, 300));
        expect.same("twenty", 20, () -> x.value(-1));
        expect.same("the last of them", 5, () -> x.value(19));
        int over = x.define(e);
        expect.same("more than there can be", -1, () -> x.run(over, 300));
        expect.same("what was is kept", 20, () -> x.value(-1));
    }

    private static void latest(Expect expect) {
        Builder b = new Builder();
        DictionaryHouse x = b.house;
        int list = x.define(b.listOf(b.number(7), b.number(8)));
        int sum = x.define(b.plus(b.number(1), b.number(1)));
        expect.badArgument("no run yet", () -> x.value(-1));
        expect.same("not enough", -1, () -> x.run(sum, 4));
        expect.badArgument("none went through", () -> x.value(0));
        expect.same("a list", 9, () -> x.run(list, 300));
        expect.same("two", 2, () -> x.value(-1));
        expect.same("not enough", -1, () -> x.run(sum, 4));
        expect.same("still the list", 8, () -> x.value(1));
        expect.same("a number", 5, () -> x.run(sum, 5));
        expect.same("one", 1, () -> x.value(-1));
        expect.same("the sum", 2, () -> x.value(0));
        expect.badArgument("no longer the list", () -> x.value(1));
    }

    private static void typesThatStandThere(Expect expect) {
        Builder b = new Builder();
        DictionaryHouse x = b.house;
        int c = b.classWith(-1, x.function(2, 0));
        int use = x.use(c, 0);
        b.instance(c, 0, -1, b.lambdas(1, b.local(0)));
        b.instance(c, 1, -1, b.lambdas(1, b.choose(b.local(0), b.number(100), b.number(200))));
        int step = b.lambdas(2, b.plus(b.call(use, b.local(1)), b.local(0)));
        b.instance(c, 2, c, b.lambdas(1, b.fold(step, b.number(1000), b.local(0))));
        comesTo(expect, "for INT", b, b.call(use, b.number(5)), 5, 5);
        comesTo(expect, "for BOOL", b, b.call(use, b.falseOne()), 11, 200);
        comesTo(expect, "for lists of BOOL", b, b.call(use, b.listOf(b.trueOne(), b.falseOne())), 53, 1300);
        int both = x.define(b.lambdas(2, b.plus(b.call(use, b.local(1)), b.call(use, b.local(0)))));
        int given = x.given(both);
        comesTo(expect, "put through a given one", b, b.call(given, b.trueOne(), b.number(3)), 26, 103);
        int turned = x.define(b.lambdas(2, b.call(given, b.local(0), b.listOf(b.local(1)))));
        int e = b.call(x.given(turned), b.number(3), b.falseOne());
        comesTo(expect, "put through two of them", b, e, 54, 1203);
    }

    /** The context is another class than that of the instance. */
    private static void contextsOfContexts(Expect expect) {
        Builder b = new Builder();
        DictionaryHouse x = b.house;
        int toInt = x.function(2, 0);
        int c = b.classWith(-1, toInt);
        int d = b.classWith(-1, toInt);
        b.instance(c, 0, -1, b.lambdas(1, b.number(1)));
        b.instance(d, 0, -1, b.lambdas(1, b.number(2)));
        b.instance(d, 1, -1, b.lambdas(1, b.number(3)));
        int stepD = b.lambdas(2, b.plus(b.call(x.use(d, 0), b.local(1)), b.local(0)));
        int stepC = b.lambdas(2, b.plus(b.call(x.use(c, 0), b.local(1)), b.local(0)));
        b.instance(c, 2, d, b.lambdas(1, b.fold(stepD, b.number(10), b.local(0))));
        b.instance(d, 2, c, b.lambdas(1, b.fold(stepC, b.number(20), b.local(0))));
        int use = x.use(c, 0);
        expect.same("a list of BOOL is in c by d", 13, () -> result(b, b.call(use, b.nested(1, b.trueOne()))));
        expect.same("a list of INT is in c by d", 12, () -> result(b, b.call(use, b.nested(1, b.number(1)))));
        expect.same("lists of lists of INT by c", 31, () -> result(b, b.call(use, b.nested(2, b.number(1)))));
        expect.same("three lists of INT by d", 42, () -> result(b, b.call(use, b.nested(3, b.number(1)))));
        expect.same("lists of lists of BOOL are not", -2, () -> x.define(b.call(use, b.nested(2, b.trueOne()))));
    }

    private static int result(Builder b, int e) {
        b.house.run(b.house.define(e), 300);
        return b.house.value(0);
    }

    /** An instance for lists that uses itself for lists of lists: the type grows while it runs. */
    private static void growingTypes(Expect expect) {
        Builder b = new Builder();
        DictionaryHouse x = b.house;
        int c = b.classWith(-1, b.arrow(0, 2, 0));
        int use = x.use(c, 0);
        b.instance(c, 0, -1, b.lambdas(2, b.plus(b.local(0), b.number(1000))));
        int head = b.fold(b.lambdas(2, b.call(use, b.number(0), b.local(1))), b.number(0), b.local(1));
        int deeper = b.plus(b.number(1), b.call(use, b.plus(b.local(2), b.number(-1)), b.nested(1, b.local(1))));
        int test = b.less(b.local(1), b.number(1));
        int body = b.call(b.choose(test, b.lambdas(1, head), b.lambdas(1, deeper)), b.number(0));
        expect.same("right", 0, () -> b.instance(c, 2, c, b.lambdas(2, body)));
        expect.same("no deeper", 1007, () -> result(b, b.call(use, b.number(0), b.nested(1, b.number(7)))));
        expect.same("two deeper", 1009, () -> result(b, b.call(use, b.number(2), b.nested(1, b.number(7)))));
        int e = b.call(use, b.number(9), b.nested(1, b.number(7)));
        expect.same("beyond 300", -1, () -> x.run(x.define(e), 300));
    }

    private static void noEnd(Expect expect) {
        Builder b = new Builder();
        DictionaryHouse x = b.house;
        int c = b.classWith(-1, x.function(2, 2));
        int use = x.use(c, 0);
        b.instance(c, 0, -1, use);
        b.instance(c, 1, -1, b.lambdas(1, b.choose(b.call(use, b.local(0)), b.local(0), b.local(0))));
        b.instance(c, 2, c, b.lambdas(1, b.fold(x.primitive(6), b.nil(), b.call(use, b.local(0)))));
        int flat = x.define(b.call(use, b.number(1)));
        int deep = x.define(b.call(use, b.trueOne()));
        int lists = x.define(b.call(use, b.nested(1, b.number(1))));
        int[] all = {flat, deep, lists};
        for (int g : all) {
            for (int steps = 1; steps <= 300; steps += 13) {
                int most = steps;
                expect.same("it has no end", -1, () -> x.run(g, most));
            }
            expect.same("it has no end", -1, () -> x.run(g, 300));
        }
        expect.badArgument("so nothing came out", () -> x.value(-1));
    }
}
