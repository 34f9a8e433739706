/** Promises 14 and 15: what types and conditions expressions have, and what is wrong with others. */
public final class DefineTest {
    private static final int NO_TYPE = -1;
    private static final int UNFULFILLED = -2;
    private static final int STRAY = -3;
    private static final int TOO_MUCH = -4;

    public static void main(String[] args) {
        Expect expect = new Expect();
        primitives(expect);
        newTypes(expect);
        locals(expect);
        noType(expect);
        conditions(expect);
        classesAbove(expect);
        unfulfilled(expect);
        stray(expect);
        tooManyVariables(expect);
        tooManyConditions(expect);
        tooManyLists(expect);
        tooManyTypes(expect);
        asManyTypesAsThereAre(expect);
        firstOfThese(expect);
        given(expect);
        longTypes(expect);
        longTypesJoined(expect);
        deepTypes(expect);
        full(expect);
        expect.end();
    }

    private static void hasType(Expect expect, String what, Builder b, int e, int due) {
        expect.same(what, due, () -> b.house.scheme(b.house.define(e), 0));
    }

    private static void primitives(Expect expect) {
        Builder b = new Builder();
        DictionaryHouse x = b.house;
        int a = Builder.A;
        int c = Builder.B;
        hasType(expect, "a number", b, b.number(-3), 0);
        hasType(expect, "TRUE", b, x.primitive(0), 1);
        hasType(expect, "FALSE", b, x.primitive(1), 1);
        hasType(expect, "PLUS", b, x.primitive(2), b.arrow(0, 0, 0));
        hasType(expect, "LESS", b, x.primitive(3), b.arrow(0, 0, 1));
        hasType(expect, "IF", b, x.primitive(4), b.arrow(1, a, a, a));
        hasType(expect, "NIL", b, x.primitive(5), x.list(a));
        hasType(expect, "CONS", b, x.primitive(6), b.arrow(a, x.list(a), x.list(a)));
        hasType(expect, "FOLD", b, x.primitive(7), b.arrow(b.arrow(a, c, c), c, x.list(a), c));
        expect.same("no conditions", 0, () -> x.scheme(8, 1));
        expect.badArgument("no first condition", () -> x.scheme(8, 2));
        expect.badArgument("no such what", () -> x.scheme(8, -1));
        expect.badArgument("no such what", () -> x.scheme(8, Integer.MIN_VALUE));
        expect.badArgument("no such what", () -> x.scheme(8, Integer.MAX_VALUE));
        expect.badArgument("no such definition", () -> x.scheme(9, 0));
        expect.badArgument("no such definition", () -> x.scheme(-1, 0));
    }

    /** New types: from left to right, those that stand in one ahead of it. */
    private static void newTypes(Expect expect) {
        Builder fold = new Builder();
        hasType(expect, "FOLD alone", fold, fold.house.primitive(7), 15);
        expect.same("b -> b", 10, () -> fold.house.function(3, 3));
        expect.same("a -> b -> b", 11, () -> fold.house.function(2, 10));
        expect.same("list of a", 12, () -> fold.house.list(2));
        expect.same("list of a -> b", 13, () -> fold.house.function(12, 3));
        expect.same("b -> list of a -> b", 14, () -> fold.house.function(3, 13));
        expect.same("the whole", 15, () -> fold.house.function(11, 14));
        expect.same("and no more", 16, () -> fold.house.list(0));

        Builder some = new Builder();
        some.house.function(3, 3);
        some.house.list(2);
        hasType(expect, "FOLD when some are there", some, some.house.primitive(7), 15);
        expect.same("a -> b -> b", 12, () -> some.house.function(2, 10));
    }

    private static void locals(Expect expect) {
        Builder b = new Builder();
        DictionaryHouse x = b.house;
        hasType(expect, "the argument", b, b.lambdas(1, b.local(0)), x.function(2, 2));
        hasType(expect, "the next one's", b, b.lambdas(2, b.local(0)), b.arrow(2, 3, 3));
        hasType(expect, "the one's around it", b, b.lambdas(2, b.local(1)), b.arrow(2, 3, 2));
        int applied = b.lambdas(2, b.call(b.local(1), b.local(0)));
        hasType(expect, "a function's argument", b, applied, b.arrow(x.function(2, 3), 2, 3));
        int turned = b.lambdas(2, b.call(b.local(0), b.local(1)));
        hasType(expect, "the order in which they stand", b, turned, b.arrow(2, x.function(2, 3), 3));
        int composed = b.lambdas(3, b.call(b.local(2), b.call(b.local(1), b.local(0))));
        hasType(expect, "three in a row", b, composed, b.arrow(x.function(2, 3), x.function(4, 2), 4, 3));
        int shared = b.local(0);
        int two = b.lambdas(1, b.call(b.lambdas(1, shared), shared));
        hasType(expect, "one expression, two places", b, two, x.function(2, 2));
        int identity = b.lambdas(1, b.local(0));
        hasType(expect, "each place has its own type", b, b.call(identity, identity), x.function(2, 2));
        int tenth = b.lambdas(1, b.call(b.lambdas(9, b.local(9)), b.number(1)));
        expect.same("the local 9 is the tenth lambda's", TOO_MUCH, () -> x.define(tenth));
    }

    private static void noType(Expect expect) {
        Builder b = new Builder();
        DictionaryHouse x = b.house;
        int plusTruth = b.call(x.primitive(2), b.trueOne());
        int[] wrong = {
            b.local(0), b.local(9), b.lambdas(1, b.local(1)), b.lambdas(9, b.local(9)),
            b.call(b.number(1), b.number(2)), plusTruth, b.lambdas(1, plusTruth),
            b.lambdas(1, b.call(b.local(0), b.local(0))),
            b.call(b.lambdas(1, b.number(1)), b.local(0)),
            b.choose(b.number(1), b.number(2), b.number(3)),
            b.choose(b.trueOne(), b.number(2), b.falseOne()),
            b.cons(b.number(1), b.listOf(b.trueOne())), b.cons(b.number(1), b.number(2)),
            b.call(x.primitive(7), x.primitive(7)),
            b.lambdas(1, b.plus(b.call(b.local(0), b.number(1)), b.call(b.local(0), b.trueOne()))),
            b.lambdas(1, b.cons(b.local(0), b.local(0))),
        };
        for (int e : wrong) {
            expect.same("expression " + e + " has no type", NO_TYPE, () -> x.define(e));
        }
        int noEnd = b.lambdas(2, b.call(b.local(1), b.cons(b.local(1), b.nil())));
        expect.same("a type without end by a list", NO_TYPE, () -> x.define(noEnd));
        expect.same("none was defined", 0, () -> x.define(b.number(1)));
        expect.same("and no type was made", 10, () -> x.list(0));
        expect.badArgument("no such expression", () -> x.define(-1));
        expect.badArgument("no such expression", () -> x.define(200));
    }

    /** Two classes side by side, each with a method from a to INT. */
    private static void conditions(Expect expect) {
        Builder b = new Builder();
        DictionaryHouse x = b.house;
        int toInt = x.function(2, 0);
        int first = b.classWith(-1, toInt);
        int second = b.classWith(-1, toInt);
        expect.same("of a use", 0, () -> x.define(x.use(second, 0)));
        expect.same("its type", toInt, () -> x.scheme(0, 0));
        expect.same("one condition", 1, () -> x.scheme(0, 1));
        expect.same("second of a", 8, () -> x.scheme(0, 2));
        expect.badArgument("no second one", () -> x.scheme(0, 3));

        int sum = b.call(x.use(second, 0), b.local(0));
        sum = b.plus(sum, b.call(x.use(second, 0), b.local(1)));
        sum = b.plus(sum, b.call(x.use(first, 0), b.local(0)));
        sum = b.plus(sum, b.call(x.use(second, 0), b.local(0)));
        int e = b.lambdas(2, sum);
        expect.same("of several", 1, () -> x.define(e));
        expect.same("each once", 3, () -> x.scheme(1, 1));
        expect.same("second of a", 8, () -> x.scheme(1, 2));
        expect.same("first of b", 1, () -> x.scheme(1, 3));
        expect.same("second of b", 9, () -> x.scheme(1, 4));
        expect.badArgument("no more", () -> x.scheme(1, 5));

        expect.same("lists by their context", 0, () -> b.instance(first, 2, second, b.lambdas(1, b.number(1))));
        int ofList = b.lambdas(1, b.call(x.use(first, 0), b.cons(b.local(0), b.nil())));
        expect.same("of lists", 2, () -> x.define(ofList));
        expect.same("a condition", 1, () -> x.scheme(2, 1));
        expect.same("that of the context for what the list is of", 8, () -> x.scheme(2, 2));

        expect.same("lists without a context", 0, () -> b.instance(second, 2, -1, b.lambdas(1, b.number(1))));
        int ofAny = b.lambdas(1, b.call(x.use(second, 0), b.cons(b.local(0), b.nil())));
        expect.same("of any lists", 3, () -> x.define(ofAny));
        expect.same("no condition", 0, () -> x.scheme(3, 1));
        int ofPlus = b.call(x.use(second, 0), b.cons(x.primitive(2), b.nil()));
        expect.same("of lists of functions", 4, () -> x.define(ofPlus));
        expect.same("of any empty list", 5, () -> x.define(b.call(x.use(second, 0), b.nil())));
    }

    private static void classesAbove(Expect expect) {
        Builder b = new Builder();
        DictionaryHouse x = b.house;
        int toInt = x.function(2, 0);
        int top = b.classWith(-1, toInt);
        int middle = b.classWith(top, toInt);
        int low = b.classWith(middle, toInt);
        int aside = b.classWith(top, toInt);
        int sum = b.plus(b.call(x.use(top, 0), b.local(0)), b.call(x.use(low, 0), b.local(0)));
        expect.same("the lower says the upper", 0, () -> x.define(b.lambdas(1, sum)));
        expect.same("directly or not", 1, () -> x.scheme(0, 1));
        expect.same("the lower remains", 8 * low, () -> x.scheme(0, 2));
        int beside = b.plus(b.call(x.use(aside, 0), b.local(0)), b.call(x.use(middle, 0), b.local(0)));
        int three = b.plus(beside, b.call(x.use(top, 0), b.local(0)));
        expect.same("two below one", 1, () -> x.define(b.lambdas(1, three)));
        expect.same("both remain", 2, () -> x.scheme(1, 1));
        expect.same("by classes", 8 * middle, () -> x.scheme(1, 2));
        expect.same("by classes", 8 * aside, () -> x.scheme(1, 3));
        int apart = b.plus(b.call(x.use(top, 0), b.local(0)), b.call(x.use(low, 0), b.local(1)));
        expect.same("of another variable it says nothing", 2, () -> x.define(b.lambdas(2, apart)));
        expect.same("both remain", 2, () -> x.scheme(2, 1));
        expect.same("by variables", 8 * low, () -> x.scheme(2, 2));
        expect.same("then the other", 8 * top + 1, () -> x.scheme(2, 3));
    }

    private static void unfulfilled(Expect expect) {
        Builder b = new Builder();
        DictionaryHouse x = b.house;
        int toInt = x.function(2, 0);
        int c = b.classWith(-1, toInt);
        int other = b.classWith(-1, toInt);
        int use = x.use(c, 0);
        int one = b.number(1);
        int truth = b.trueOne();
        int constant = b.lambdas(1, one);
        expect.same("INT without an instance", UNFULFILLED, () -> x.define(b.call(use, one)));
        expect.same("a list without an instance", UNFULFILLED, () -> x.define(b.call(use, b.nil())));
        b.instance(c, 0, -1, constant);
        b.instance(c, 2, c, constant);
        expect.same("INT", 0, () -> x.define(b.call(use, one)));
        expect.same("BOOL", UNFULFILLED, () -> x.define(b.call(use, truth)));
        expect.same("a function", UNFULFILLED, () -> x.define(b.call(use, x.primitive(2))));
        expect.same("a lambda", UNFULFILLED, () -> x.define(b.call(use, constant)));
        expect.same("a list of INT", 1, () -> x.define(b.call(use, b.nested(1, one))));
        expect.same("a list of lists of INT", 2, () -> x.define(b.call(use, b.nested(2, one))));
        expect.same("a list of lists of BOOL", UNFULFILLED, () -> x.define(b.call(use, b.nested(2, truth))));
        expect.same("a list of functions", UNFULFILLED, () -> x.define(b.call(use, b.nested(1, constant))));
        expect.same("another class has its own", UNFULFILLED, () -> x.define(b.call(x.use(other, 0), one)));
        b.instance(c, 1, -1, constant);
        expect.same("BOOL later on", 3, () -> x.define(b.call(use, b.nested(2, truth))));
    }

    private static void stray(Expect expect) {
        Builder b = new Builder();
        DictionaryHouse x = b.house;
        int c = x.type(-1);
        x.method(c, 2);
        x.method(c, x.function(2, 0));
        int lost = b.call(x.use(c, 1), x.use(c, 0));
        expect.same("INT by a type that nobody tells", STRAY, () -> x.define(lost));
        int kept = b.lambdas(1, b.call(x.use(c, 1), b.local(0)));
        expect.same("a type that is told", 0, () -> x.define(kept));
        int beside = b.lambdas(1, b.call(b.lambdas(1, b.local(1)), lost));
        expect.same("a variable is in its type, but another one", STRAY, () -> x.define(beside));
        x.instance(c, 2, c, b.nil(), b.lambdas(1, b.number(1)), -1);
        int lists = b.call(x.use(c, 1), b.nil());
        expect.same("by the context, too", STRAY, () -> x.define(lists));
    }

    private static void tooManyVariables(Expect expect) {
        Builder b = new Builder();
        DictionaryHouse x = b.house;
        int eight = b.lambdas(8, b.number(1));
        int nine = b.lambdas(9, b.number(1));
        expect.same("nine variables", TOO_MUCH, () -> x.define(nine));
        expect.same("no types were made", 10, () -> x.list(1));
        expect.same("eight variables", 0, () -> x.define(eight));
        expect.same("h -> INT is the first new one", 11, () -> x.function(9, 0));
        expect.same("the last new one", 18, () -> x.scheme(0, 0));
        int hidden = b.call(b.lambdas(1, b.number(1)), nine);
        expect.same("not in its type", 1, () -> x.define(hidden));
        int sameTen = b.lambdas(8, b.lambdas(2, b.cons(b.local(0), b.cons(b.local(1), b.cons(b.local(2), b.nil())))));
        expect.same("ten arguments, eight variables", 2, () -> x.define(sameTen));
    }

    private static void tooManyConditions(Expect expect) {
        Builder b = new Builder();
        DictionaryHouse x = b.house;
        int toInt = x.function(2, 0);
        int[] uses = new int[4];
        for (int c = 0; c < 3; c++) {
            uses[c] = x.use(b.classWith(-1, toInt), 0);
        }
        uses[3] = x.use(b.classWith(2, toInt), 0);
        int sum = b.number(0);
        int eight = 0;
        for (int i = 0; i < 9; i++) {
            eight = sum;
            sum = i == 0 ? b.call(uses[0], b.local(0)) : b.plus(b.call(uses[i % 3], b.local(i / 3)), sum);
        }
        int nine = b.lambdas(3, sum);
        int right = b.lambdas(3, eight);
        expect.same("nine conditions", TOO_MUCH, () -> x.define(nine));
        expect.same("eight conditions", 0, () -> x.define(right));
        expect.same("eight", 8, () -> x.scheme(0, 1));
        int[] due = {0, 8, 1, 9, 17, 2, 10, 18};
        for (int i = 0; i < 8; i++) {
            int what = 2 + i;
            expect.same("condition " + i, due[i], () -> x.scheme(0, what));
        }
        expect.badArgument("no ninth", () -> x.scheme(0, 10));
        int lower = b.lambdas(3, b.plus(b.call(uses[3], b.local(1)), eight));
        expect.same("those that a lower class says do not count", 1, () -> x.define(lower));
        expect.same("eight", 8, () -> x.scheme(1, 1));
        expect.same("the lower one instead", 8 * 3 + 1, () -> x.scheme(1, 6));
    }

    private static void tooManyLists(Expect expect) {
        Builder b = new Builder();
        DictionaryHouse x = b.house;
        int toInt = x.function(2, 0);
        int c = b.classWith(-1, toInt);
        int d = b.classWith(-1, toInt);
        int constant = b.lambdas(1, b.number(1));
        b.instance(c, 0, -1, constant);
        b.instance(c, 2, c, constant);
        b.instance(d, 2, -1, constant);
        int use = x.use(c, 0);
        int one = b.number(1);
        int truth = b.trueOne();
        expect.same("three lists", 0, () -> x.define(b.call(use, b.nested(3, one))));
        expect.same("four lists", TOO_MUCH, () -> x.define(b.call(use, b.nested(4, one))));
        int four = b.lambdas(1, b.call(use, b.nested(4, b.local(0))));
        expect.same("four lists to a variable", TOO_MUCH, () -> x.define(four));
        int three = b.lambdas(1, b.call(use, b.nested(3, b.local(0))));
        expect.same("three lists to a variable", 1, () -> x.define(three));
        int bad = b.call(use, b.nested(4, truth));
        expect.same("four lists to what is not fulfilled", UNFULFILLED, () -> x.define(bad));
        expect.same("four lists to a stray one", STRAY, () -> x.define(b.call(use, b.nested(3, b.nil()))));
        int free = b.call(x.use(d, 0), b.nested(6, one));
        expect.same("lists that are not followed", 2, () -> x.define(free));
        int given = b.lambdas(1, b.call(x.given(1), b.local(0)));
        expect.same("a given one is not followed anew", 3, () -> x.define(given));
        int givenOfList = b.call(x.given(1), b.nested(3, one));
        expect.same("but its own condition is", 4, () -> x.define(givenOfList));
        expect.same("so far and no further", TOO_MUCH, () -> x.define(b.call(x.given(1), b.nested(4, one))));
    }

    private static void tooManyTypes(Expect expect) {
        Builder b = new Builder();
        DictionaryHouse x = b.house;
        int twoNew = b.lambdas(2, b.local(1));
        int oneNew = b.lambdas(1, b.number(3));
        int fold = x.primitive(7);
        b.fillTypesTo(39);
        expect.same("two new types, room for one", TOO_MUCH, () -> x.define(twoNew));
        expect.same("six new types, room for one", TOO_MUCH, () -> x.define(fold));
        expect.badArgument("none of them was made", () -> x.list(39));
        expect.same("one new type", 0, () -> x.define(oneNew));
        expect.same("the last one", 39, () -> x.scheme(0, 0));
        expect.same("no new type", 1, () -> x.define(b.number(1)));
        expect.same("one more", TOO_MUCH, () -> x.define(b.nil()));
        int inside = b.call(b.lambdas(1, b.number(1)), fold);
        expect.same("types of places within are not numbered", 2, () -> x.define(inside));

        Builder deep = new Builder();
        int thirteen = deep.lambdas(1, deep.nested(13, deep.local(0)));
        deep.house.define(thirteen);
        int g = deep.house.given(0);
        expect.same("deeper than there are numbers", TOO_MUCH,
                () -> deep.house.define(deep.call(g, deep.call(g, deep.call(g, deep.number(1))))));
        expect.same("as deep as there are", 1, () -> deep.house.define(deep.call(g, deep.number(1))));
    }

    private static void asManyTypesAsThereAre(Expect expect) {
        Builder b = new Builder();
        DictionaryHouse x = b.house;
        expect.same("14 lists", 0, () -> x.define(b.nested(14, b.number(1))));
        expect.same("28 lists", 1, () -> x.define(b.nested(14, x.given(0))));
        expect.same("31 lists", TOO_MUCH, () -> x.define(b.nested(3, x.given(1))));
        expect.same("30 lists", 2, () -> x.define(b.nested(2, x.given(1))));
        expect.same("the fortieth type", 39, () -> x.scheme(2, 0));
        expect.same("31 lists", TOO_MUCH, () -> x.define(b.nested(1, x.given(2))));
    }

    /** Each wrong in two ways: the first of them is told. */
    private static void firstOfThese(Expect expect) {
        Builder b = new Builder();
        DictionaryHouse x = b.house;
        int c = x.type(-1);
        x.method(c, 2);
        x.method(c, x.function(2, 0));
        int lost = b.call(x.use(c, 1), x.use(c, 0));
        int bad = b.call(x.use(c, 1), b.trueOne());
        int nine = b.lambdas(9, b.number(1));
        int drop = b.lambdas(2, b.local(0));
        int noType = b.call(b.number(1), b.number(1));
        expect.same("-1 ahead of -2", NO_TYPE, () -> x.define(b.call(drop, bad, noType)));
        expect.same("-2 ahead of -3", UNFULFILLED, () -> x.define(b.call(drop, lost, bad)));
        expect.same("-3 ahead of -4", STRAY, () -> x.define(b.call(drop, lost, nine)));
        expect.same("-2 ahead of -4", UNFULFILLED, () -> x.define(b.call(drop, bad, nine)));
    }

    private static void given(Expect expect) {
        Builder b = new Builder();
        DictionaryHouse x = b.house;
        int toInt = x.function(2, 0);
        int c = b.classWith(-1, toInt);
        b.instance(c, 1, -1, b.lambdas(1, b.number(5)));
        x.define(b.lambdas(2, b.plus(b.call(x.use(c, 0), b.local(1)), b.local(0))));
        int once = x.given(0);
        expect.same("a given one has its scheme", 1, () -> x.define(once));
        expect.same("its type", x.scheme(0, 0), () -> x.scheme(1, 0));
        expect.same("its condition", 0, () -> x.scheme(1, 2));
        expect.same("with a type put for a", 2, () -> x.define(b.call(once, b.trueOne())));
        expect.same("INT -> INT", b.arrow(0, 0), () -> x.scheme(2, 0));
        expect.same("fulfilled", 0, () -> x.scheme(2, 1));
        expect.same("not fulfilled", UNFULFILLED, () -> x.define(b.call(once, b.number(1))));
        x.define(b.lambdas(1, b.local(0)));
        int identity = x.given(3);
        int twice = b.choose(b.call(identity, b.trueOne()), b.call(identity, b.number(1)), b.number(2));
        expect.same("other types at each place", 4, () -> x.define(twice));
        expect.same("INT", 0, () -> x.scheme(4, 0));
        int swapped = b.lambdas(2, b.call(once, b.local(0), b.call(once, b.local(1), b.number(1))));
        expect.same("conditions of two", 5, () -> x.define(swapped));
        expect.same("two of them", 2, () -> x.scheme(5, 1));
        expect.same("of a", 0, () -> x.scheme(5, 2));
        expect.same("of b", 1, () -> x.scheme(5, 3));
    }

    /** Types that double with each application: written out they would be endless in practice. */
    private static void longTypes(Expect expect) {
        Builder b = new Builder();
        DictionaryHouse x = b.house;
        int first = b.call(b.local(0), b.local(1), b.local(1));
        x.define(b.lambdas(2, first));
        int pair = x.given(0);
        int e = b.number(1);
        for (int i = 0; i < 27; i++) {
            e = x.apply(pair, e);
        }
        int many = e;
        int hidden = b.call(b.lambdas(1, b.number(7)), many);
        expect.same("very long, but not in the type", 1, () -> x.define(hidden));
        expect.same("very long", TOO_MUCH, () -> x.define(many));
        expect.same("it runs", 4 + 27 * 4, () -> x.run(1, 300));
    }

    /** Two very long types that differ in nothing but their first part, or not at all. */
    private static void longTypesJoined(Expect expect) {
        Builder b = new Builder();
        DictionaryHouse x = b.house;
        int six = b.local(0);
        for (int i = 0; i < 6; i++) {
            six = b.call(six, b.local(1));
        }
        x.define(b.lambdas(2, six));
        int many = b.number(1);
        for (int i = 0; i < 5; i++) {
            many = x.apply(x.given(0), many);
        }
        int ofInt = joined(b, many, b.number(1));
        int ofBool = joined(b, many, b.trueOne());
        expect.same("they are the same", 1, () -> x.define(ofInt));
        expect.same("they differ", NO_TYPE, () -> x.define(ofBool));
    }

    /** One argument is a function from INT to the long type, one from the other's: then they are joined. */
    private static int joined(Builder b, int many, int other) {
        int first = b.choose(b.trueOne(), b.call(b.local(1), b.number(1)), many);
        int second = b.choose(b.trueOne(), b.call(b.local(0), other), many);
        int third = b.choose(b.trueOne(), b.local(1), b.local(0));
        int seven = b.number(7);
        int all = b.lambdas(2, b.call(b.lambdas(3, seven), first, second, third));
        return b.call(b.lambdas(1, seven), all);
    }

    /** Types as deep as a definition can make them, many times over. */
    private static void deepTypes(Expect expect) {
        Builder b = new Builder();
        DictionaryHouse x = b.house;
        expect.same("a deep one", 0, () -> x.define(b.lambdas(8, b.nested(12, b.local(7)))));
        int given = x.given(0);
        int e = b.number(1);
        for (int i = 0; i < 28; i++) {
            e = x.apply(given, e);
        }
        int deep = e;
        expect.same("too deep by far", TOO_MUCH, () -> x.define(deep));
        int hidden = b.call(b.lambdas(1, b.number(7)), deep);
        expect.same("not in the type", 1, () -> x.define(hidden));
        expect.same("it runs", 4 + 28 * 4, () -> x.run(1, 300));
        expect.same("no types but the first one's were made", 30, () -> x.list(9));
    }

    private static void full(Expect expect) {
        DictionaryHouse x = new DictionaryHouse();
        int wrong = x.local(0);
        int right = x.number(0);
        for (int g = 0; g < 20; g++) {
            int due = g;
            expect.same("definition " + g, due, () -> x.define(right));
            if (g < 19) {
                expect.same("a wrong one takes no number", NO_TYPE, () -> x.define(wrong));
            }
        }
        expect.badState("the twenty-first", () -> x.define(right));
        expect.badState("also when it is wrong", () -> x.define(wrong));
        expect.badArgument("no such expression goes ahead", () -> x.define(2));
        expect.same("the last one stands", 0, () -> x.scheme(19, 0));
        expect.badArgument("no more", () -> x.scheme(20, 0));
    }
}
