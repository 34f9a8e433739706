/** Promises 13 and 16: instances, what is wrong with them, and which types are in a class by them. */
public final class InstanceTest {
    private static final int NO_TYPE = -1;
    private static final int UNFULFILLED = -2;
    private static final int STRAY = -3;
    private static final int TOO_MUCH = -4;
    private static final int NOT_ABOVE = -5;

    public static void main(String[] args) {
        Expect expect = new Expect();
        wrongCalls(expect);
        membership(expect);
        above(expect);
        aboveForLists(expect);
        noType(expect);
        unfulfilled(expect);
        contexts(expect);
        contextsAbove(expect);
        tooManyLists(expect);
        onlyListsAreTooMuch(expect);
        itself(expect);
        firstMethod(expect);
        expect.end();
    }

    private static void wrongCalls(Expect expect) {
        Builder b = new Builder();
        DictionaryHouse x = b.house;
        int c = x.type(-1);
        x.method(c, 2);
        x.method(c, 2);
        int one = b.number(1);
        int[] bad = {-1, -2, 6, 1};
        for (int no : bad) {
            expect.badArgument("class " + no, () -> x.instance(no, 0, -1, one, one, one));
        }
        expect.badArgument("shape 3", () -> x.instance(c, 3, -1, one, one, one));
        expect.badArgument("shape -1", () -> x.instance(c, -1, -1, one, one, one));
        expect.badArgument("a context for INT", () -> x.instance(c, 0, c, one, one, one));
        expect.badArgument("a context for BOOL", () -> x.instance(c, 1, c, one, one, one));
        expect.badArgument("no such context", () -> x.instance(c, 2, 1, one, one, one));
        expect.badArgument("no such context", () -> x.instance(c, 2, -2, one, one, one));
        expect.badArgument("no such first expression", () -> x.instance(c, 0, -1, 1, one, one));
        expect.badArgument("no such second expression", () -> x.instance(c, 0, -1, one, -1, one));
        expect.badArgument("none of these made one", () -> x.instance(c, 0, -1, 200, one, one));
        expect.same("the third one is not looked at", 0, () -> x.instance(c, 0, -1, one, one, -77));
        expect.badState("a second for the shape", () -> x.instance(c, 0, -1, one, one, one));
        expect.badArgument("no such expression goes ahead", () -> x.instance(c, 0, -1, one, 9, one));
        expect.badArgument("a context goes ahead", () -> x.instance(c, 0, c, one, one, one));
        int empty = x.type(-1);
        expect.same("a class without methods", 0, () -> x.instance(empty, 2, c, -1, -1, -1));
        expect.badState("once only", () -> x.instance(empty, 2, -1, -1, -1, -1));
        expect.same("for another shape", 0, () -> x.instance(empty, 1, -1, -1, -1, -1));
    }

    private static void membership(Expect expect) {
        Builder b = new Builder();
        DictionaryHouse x = b.house;
        int c = x.type(-1);
        int d = x.type(-1);
        int ofInt = x.list(0);
        int ofBool = x.list(1);
        int ofA = x.list(2);
        int ofLists = x.list(ofInt);
        int function = x.function(0, 0);
        int ofFunctions = x.list(function);
        for (int t = 0; t <= ofFunctions; t++) {
            int which = t;
            expect.same("nothing is in it yet: " + t, false, () -> x.is(c, which));
        }
        x.instance(c, 0, -1, 0, 0, 0);
        expect.same("INT", true, () -> x.is(c, 0));
        expect.same("not BOOL", false, () -> x.is(c, 1));
        expect.same("not INT of another class", false, () -> x.is(d, 0));
        expect.same("not lists", false, () -> x.is(c, ofInt));
        x.instance(c, 2, c, 0, 0, 0);
        expect.same("lists of INT", true, () -> x.is(c, ofInt));
        expect.same("lists of them", true, () -> x.is(c, ofLists));
        expect.same("not lists of BOOL", false, () -> x.is(c, ofBool));
        expect.same("not lists of a", false, () -> x.is(c, ofA));
        expect.same("not functions", false, () -> x.is(c, function));
        expect.same("not lists of functions", false, () -> x.is(c, ofFunctions));
        x.instance(d, 2, -1, 0, 0, 0);
        expect.same("any lists: of INT", true, () -> x.is(d, ofInt));
        expect.same("any lists: of a", true, () -> x.is(d, ofA));
        expect.same("any lists: of functions", true, () -> x.is(d, ofFunctions));
        expect.same("no variable", false, () -> x.is(d, 2));
        expect.same("no variable", false, () -> x.is(c, 9));
        int e = x.type(-1);
        x.instance(e, 2, d, 0, 0, 0);
        expect.same("lists of any lists", true, () -> x.is(e, ofLists));
        expect.same("not lists of INT", false, () -> x.is(e, ofInt));
        int deep = ofLists;
        for (int i = 0; i < 8; i++) {
            deep = x.list(deep);
        }
        int deepest = deep;
        expect.same("however many lists", true, () -> x.is(c, deepest));
        expect.badArgument("no such class", () -> x.is(3, 0));
        expect.badArgument("no such class", () -> x.is(-1, 0));
        expect.badArgument("no such type", () -> x.is(c, deepest + 1));
        expect.badArgument("no such type", () -> x.is(c, -1));
    }

    private static void above(Expect expect) {
        Builder b = new Builder();
        DictionaryHouse x = b.house;
        int top = x.type(-1);
        int middle = x.type(top);
        int low = x.type(middle);
        for (int shape = 0; shape < 3; shape++) {
            int s = shape;
            expect.same("none above", NOT_ABOVE, () -> x.instance(middle, s, -1, 0, 0, 0));
            expect.same("that made none", NOT_ABOVE, () -> x.instance(low, s, -1, 0, 0, 0));
            expect.same("the top one", 0, () -> x.instance(top, s, -1, 0, 0, 0));
            expect.same("the next one above counts", NOT_ABOVE, () -> x.instance(low, s, -1, 0, 0, 0));
            expect.same("one above", 0, () -> x.instance(middle, s, -1, 0, 0, 0));
            expect.same("two above", 0, () -> x.instance(low, s, -1, 0, 0, 0));
        }
        Builder wrong = new Builder();
        int upper = wrong.house.type(-1);
        int lower = wrong.classWith(upper, 2);
        int local = wrong.local(0);
        expect.same("-5 ahead of -1", NOT_ABOVE, () -> wrong.instance(lower, 0, -1, local));
        expect.badArgument("no such expression ahead of -5", () -> wrong.instance(lower, 0, -1, 9));
    }

    private static void aboveForLists(Expect expect) {
        int[] due = {NOT_ABOVE, 0, 0, NOT_ABOVE};
        for (int i = 0; i < 4; i++) {
            DictionaryHouse x = new DictionaryHouse();
            int top = x.type(-1);
            int low = x.type(top);
            int lowest = x.type(low);
            int aside = x.type(-1);
            int[] context = {-1, top, lowest, aside};
            int own = context[i];
            x.instance(top, 2, top, 0, 0, 0);
            expect.same("context " + own + " where the one above asks for itself", due[i],
                    () -> x.instance(low, 2, own, 0, 0, 0));
        }
        DictionaryHouse x = new DictionaryHouse();
        int top = x.type(-1);
        int low = x.type(top);
        x.instance(top, 2, low, 0, 0, 0);
        expect.same("the upper context does not do for a lower one", NOT_ABOVE, () -> x.instance(low, 2, top, 0, 0, 0));
        expect.same("the lower one does", 0, () -> x.instance(low, 2, low, 0, 0, 0));
    }

    private static void noType(Expect expect) {
        Builder b = new Builder();
        DictionaryHouse x = b.house;
        int change = b.classWith(-1, x.function(2, 2));
        int same = b.lambdas(1, b.local(0));
        int next = b.lambdas(1, b.plus(b.local(0), b.number(1)));
        int free = b.local(0);
        int open = b.lambdas(1, b.local(1));
        int noEnd = b.lambdas(1, b.call(b.local(0), b.local(0)));
        int[] wrong = {free, open, noEnd, b.number(1), b.lambdas(1, b.trueOne()), x.primitive(2)};
        for (int e : wrong) {
            expect.same("for INT: " + e, NO_TYPE, () -> b.instance(change, 0, -1, e));
        }
        expect.same("for BOOL", NO_TYPE, () -> b.instance(change, 1, -1, next));
        expect.same("for lists", NO_TYPE, () -> b.instance(change, 2, -1, next));
        int ofInt = b.lambdas(1, b.cons(b.number(1), b.local(0)));
        expect.same("for all lists, not those of INT alone", NO_TYPE, () -> b.instance(change, 2, -1, ofInt));
        int ofLists = b.lambdas(1, b.cons(b.nil(), b.local(0)));
        expect.same("nor those of lists alone", NO_TYPE, () -> b.instance(change, 2, -1, ofLists));
        expect.same("none was made", false, () -> x.is(change, 0) || x.is(change, 1) || x.is(change, x.list(0)));
        expect.same("INT", 0, () -> b.instance(change, 0, -1, next));
        expect.same("more general than asked", 0, () -> b.instance(change, 1, -1, same));
        expect.same("for all lists", 0, () -> b.instance(change, 2, -1, same));
    }

    private static void unfulfilled(Expect expect) {
        Builder b = new Builder();
        DictionaryHouse x = b.house;
        int toInt = x.function(2, 0);
        int c = b.classWith(-1, toInt);
        int d = b.classWith(-1, toInt);
        int viaD = b.lambdas(1, b.call(x.use(d, 0), b.local(0)));
        int constant = b.lambdas(1, b.number(1));
        expect.same("INT is not in the other class", UNFULFILLED, () -> b.instance(c, 0, -1, viaD));
        expect.same("lists are not", UNFULFILLED, () -> b.instance(c, 2, d, viaD));
        b.instance(d, 0, -1, constant);
        expect.same("INT is now", 0, () -> b.instance(c, 0, -1, viaD));
        expect.same("BOOL is not", UNFULFILLED, () -> b.instance(c, 1, -1, viaD));
        b.instance(d, 2, -1, constant);
        expect.same("lists are now", 0, () -> b.instance(c, 2, -1, viaD));
        int viaFunction = b.lambdas(1, b.call(x.use(d, 0), constant));
        expect.same("functions never", UNFULFILLED, () -> b.instance(c, 1, -1, viaFunction));
    }

    /** A class whose methods for lists look at what the list is of. */
    private static void contexts(Expect expect) {
        Builder b = new Builder();
        DictionaryHouse x = b.house;
        int toInt = x.function(2, 0);
        int c = b.classWith(-1, toInt);
        int other = b.classWith(-1, toInt);
        int step = b.lambdas(2, b.plus(b.call(x.use(c, 0), b.local(1)), b.local(0)));
        int sum = b.lambdas(1, b.fold(step, b.number(0), b.local(0)));
        expect.same("no context gives it", STRAY, () -> b.instance(c, 2, -1, sum));
        expect.same("another context does not give it", STRAY, () -> b.instance(c, 2, other, sum));
        expect.same("the context gives it", 0, () -> b.instance(c, 2, c, sum));
        int made = b.classWith(-1, 2);
        int lost = b.lambdas(1, b.call(x.use(c, 0), x.use(made, 0)));
        expect.same("one that nobody tells", STRAY, () -> b.instance(other, 0, -1, lost));
        expect.same("whatever the context", STRAY, () -> b.instance(other, 2, c, lost));
    }

    private static void contextsAbove(Expect expect) {
        Builder b = new Builder();
        DictionaryHouse x = b.house;
        int toInt = x.function(2, 0);
        int top = b.classWith(-1, toInt);
        int low = x.type(x.type(top));
        int user = b.classWith(-1, toInt);
        int step = b.lambdas(2, b.plus(b.call(x.use(top, 0), b.local(1)), b.local(0)));
        int sum = b.lambdas(1, b.fold(step, b.number(0), b.local(0)));
        expect.same("the context is in the class by two above", 0, () -> b.instance(user, 2, low, sum));
        Builder upside = new Builder();
        DictionaryHouse y = upside.house;
        int up = upside.classWith(-1, y.function(2, 0));
        int down = upside.classWith(up, 10);
        int viaDown = upside.lambdas(2, upside.plus(upside.call(y.use(down, 0), upside.local(1)), upside.local(0)));
        int wrong = upside.lambdas(1, upside.fold(viaDown, upside.number(0), upside.local(0)));
        expect.same("not the other way round", STRAY, () -> upside.instance(up, 2, up, wrong));
    }

    private static void tooManyLists(Expect expect) {
        Builder b = new Builder();
        DictionaryHouse x = b.house;
        int toInt = x.function(2, 0);
        int c = b.classWith(-1, toInt);
        int d = b.classWith(-1, toInt);
        int constant = b.lambdas(1, b.number(1));
        b.instance(c, 2, c, constant);
        int two = b.lambdas(1, b.call(x.use(c, 0), b.nested(2, b.local(0))));
        int three = b.lambdas(1, b.call(x.use(c, 0), b.nested(3, b.local(0))));
        expect.same("four lists", TOO_MUCH, () -> b.instance(d, 2, c, three));
        expect.same("four lists, and the context does not give it", STRAY, () -> b.instance(d, 2, d, three));
        expect.same("three lists of INT, which is not in it", UNFULFILLED, () -> b.instance(d, 0, -1, three));
        expect.same("three lists", 0, () -> b.instance(d, 2, c, two));
        b.instance(c, 0, -1, constant);
        expect.same("three lists of INT", 0, () -> b.instance(d, 0, -1, three));
    }

    /** What would be too much for a definition is none of an instance's business. */
    private static void onlyListsAreTooMuch(Expect expect) {
        Builder b = new Builder();
        DictionaryHouse x = b.house;
        int c = b.classWith(-1, b.arrow(2, 0));
        b.fillTypesTo(40);
        int nine = b.lambdas(9, b.number(1));
        int e = b.lambdas(1, b.call(b.lambdas(1, b.number(1)), nine));
        expect.same("no room for types", 0, () -> b.instance(c, 2, -1, e));
        expect.same("nor are any made", 0, () -> b.instance(c, 0, -1, e));
        expect.badState("still full", () -> x.list(39));
    }

    private static void itself(Expect expect) {
        Builder b = new Builder();
        DictionaryHouse x = b.house;
        int c = b.classWith(-1, x.function(2, 0));
        int use = x.use(c, 0);
        expect.same("for INT by itself", 0, () -> b.instance(c, 0, -1, use));
        int deeper = b.lambdas(1, b.call(use, b.cons(b.local(0), b.nil())));
        expect.same("for lists by lists of lists", 0, () -> b.instance(c, 2, c, deeper));
        Builder other = new Builder();
        int d = other.classWith(-1, other.house.function(2, 0));
        int viaTruth = other.lambdas(1, other.call(other.house.use(d, 0), other.trueOne()));
        expect.same("but not by another that is not there", UNFULFILLED, () -> other.instance(d, 0, -1, viaTruth));
        expect.same("when it is wrong there is none", false, () -> other.house.is(d, 0));
        expect.same("so it cannot be used", UNFULFILLED,
                () -> other.house.define(other.call(other.house.use(d, 0), other.number(1))));
        expect.same("and can be made", 0, () -> other.instance(d, 0, -1, other.lambdas(1, other.number(3))));
        expect.same("then it is there", true, () -> other.house.is(d, 0));
    }

    private static void firstMethod(Expect expect) {
        Builder b = new Builder();
        DictionaryHouse x = b.house;
        int c = x.type(-1);
        int made = b.classWith(-1, 2);
        x.method(c, x.function(2, 0));
        x.method(c, x.function(2, 0));
        x.method(c, 2);
        int right = b.lambdas(1, b.number(1));
        int noType = b.local(3);
        int stray = b.lambdas(1, b.call(x.use(c, 0), x.use(made, 0)));
        int bad = b.lambdas(1, b.call(x.use(c, 0), b.trueOne()));
        int one = b.number(1);
        expect.same("the first method's", STRAY, () -> x.instance(c, 0, -1, stray, bad, noType));
        expect.same("the second method's", UNFULFILLED, () -> x.instance(c, 0, -1, right, bad, noType));
        expect.same("the third method's", NO_TYPE, () -> x.instance(c, 0, -1, right, right, noType));
        expect.same("the third method's type", NO_TYPE, () -> x.instance(c, 0, -1, right, right, right));
        expect.same("all are right", 0, () -> x.instance(c, 0, -1, right, right, one));
    }
}
