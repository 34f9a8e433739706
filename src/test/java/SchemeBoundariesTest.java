/** The boundaries of promises 14 and 15 and of SCHEME and WRONG among the terms, a test for each sentence. */
public final class SchemeBoundariesTest {
    private static final int NO_TYPE = -1;
    private static final int UNFULFILLED = -2;
    private static final int STRAY = -3;
    private static final int TOO_MUCH = -4;

    private final Expect expect = new Expect();
    private final Twins twins = new Twins(expect);

    public static void main(String[] args) {
        SchemeBoundariesTest test = new SchemeBoundariesTest();
        test.typesOfPrimitives();
        test.orderOfVariables();
        test.conditionsThatRemain();
        test.conditionsOfEach();
        test.noType();
        test.localsAndLambdas();
        test.unfulfilled();
        test.unfulfilledInLists();
        test.stray();
        test.variables();
        test.conditions();
        test.lists();
        test.listsByContexts();
        test.types();
        test.orderOfTypes();
        test.firstOfThese();
        test.firstOfTheseInLists();
        test.definitions();
        test.schemeRefused();
        test.expect.end();
    }

    private void wrong(String what, int due, Twins.Past past) {
        twins.leavesAll(what, due, past, (x, e) -> x.define(e));
    }

    private void typesOfPrimitives() {
        expect.sentence("a PRIMITIVE: 0 TRUE and 1 FALSE of BOOL, .. 7 FOLD of (a -> b -> b) -> b -> list of a -> b", () -> {
            for (int i = 0; i <= 7; i++) {
                Builder b = new Builder();
                int k = i;
                int ofA = b.house.list(2);
                int[] due = {1, 1, b.arrow(0, 0, 0), b.arrow(0, 0, 1), b.arrow(1, 2, 2, 2), ofA,
                    b.arrow(2, ofA, ofA), b.arrow(b.arrow(2, 3, 3), 3, ofA, 3)};
                expect.same("primitive " + k, due[k], () -> b.house.scheme(b.house.define(b.house.primitive(k)), 0));
            }
        });
    }

    private void orderOfVariables() {
        expect.sentence("variables from a on in the order in which they stand in it from left to right", () -> {
            for (int k = 0; k < 8; k++) {
                Builder b = new Builder();
                int e = b.lambdas(8, b.local(k));
                int due = b.arrow(2, 3, 4, 5, 6, 7, 8, 9, 9 - k);
                expect.same("the last is the argument of lambda " + k, due, () -> b.house.scheme(b.house.define(e), 0));
            }
        });
        expect.sentence("the most general type that it can have", () -> {
            Builder b = new Builder();
            int turned = b.lambdas(3, b.call(b.local(2), b.local(0), b.local(1)));
            int due = b.arrow(b.arrow(2, 3, 4), 3, 2, 4);
            expect.same("a function that is turned", due, () -> b.house.scheme(b.house.define(turned), 0));
        });
        expect.sentence("a primitive has its own, with any types for a and b", () -> {
            Builder b = new Builder();
            int nil = b.nil();
            int lists = b.house.list(b.house.list(2));
            expect.same("one expression at two places", lists, () -> b.house.scheme(b.house.define(b.cons(nil, nil)), 0));
        });
    }

    /** Classes 0 above 1 above 2, and 3 beside them, each with a method a -> INT. */
    private static int classes(Builder b) {
        int toInt = b.house.function(2, 0);
        b.classWith(-1, toInt);
        b.classWith(0, toInt);
        b.classWith(1, toInt);
        b.classWith(-1, toInt);
        return toInt;
    }

    /** A sum in which class c is used on local k for each pair (c, k). */
    private static int uses(Builder b, int lambdas, int... pairs) {
        int e = b.call(b.house.use(pairs[0], 0), b.local(pairs[1]));
        for (int i = 2; i < pairs.length; i += 2) {
            e = b.plus(e, b.call(b.house.use(pairs[i], 0), b.local(pairs[i + 1])));
        }
        return b.lambdas(lambdas, e);
    }

    private void remaining(String what, int lambdas, int[] pairs, int... due) {
        Builder b = new Builder();
        classes(b);
        int e = uses(b, lambdas, pairs);
        expect.same(what, 0, () -> b.house.define(e));
        expect.same(what + ": how many", due.length, () -> b.house.scheme(0, 1));
        for (int i = 0; i < due.length; i++) {
            int at = i;
            expect.same(what + ": condition " + at, due[at], () -> b.house.scheme(0, 2 + at));
        }
        expect.badArgument(what + ": no more", () -> b.house.scheme(0, 2 + due.length));
    }

    private void conditionsThatRemain() {
        expect.sentence("for a variable itself, once", () -> {
            remaining("twice the same", 1, new int[] {1, 0, 1, 0}, 8);
            remaining("the same of two variables", 2, new int[] {1, 0, 1, 1}, 8, 9);
        });
        expect.sentence("but not if it is also in a class that has this one above", () -> {
            remaining("directly", 1, new int[] {0, 0, 1, 0}, 8);
            remaining("the other way round", 1, new int[] {1, 0, 0, 0}, 8);
            remaining("or not", 1, new int[] {0, 0, 2, 0}, 16);
            remaining("all three", 1, new int[] {2, 0, 0, 0, 1, 0}, 16);
            remaining("one beside it", 1, new int[] {0, 0, 3, 0}, 0, 24);
            remaining("of another variable", 2, new int[] {0, 1, 1, 0}, 0, 9);
        });
        expect.sentence("They stand by variables, then by classes", () ->
            remaining("two by two", 2, new int[] {3, 0, 3, 1, 0, 0, 0, 1}, 0, 24, 1, 25));
        expect.sentence("for a list that of its context for what it is of, and so on", () -> {
            Builder b = new Builder();
            classes(b);
            int constant = b.lambdas(1, b.number(1));
            b.instance(0, 2, 3, constant);
            b.instance(3, 2, 1, constant);
            int one = b.lambdas(1, b.call(b.house.use(0, 0), b.nested(1, b.local(0))));
            int two = b.lambdas(1, b.call(b.house.use(0, 0), b.nested(2, b.local(0))));
            expect.same("a list", 24, () -> b.house.scheme(b.house.define(one), 2));
            expect.same("a list of lists", 8, () -> b.house.scheme(b.house.define(two), 2));
        });
    }

    private void conditionsOfEach() {
        expect.sentence("of all its conditions those that remain: its own, and no other definition's", () -> {
            Builder b = new Builder();
            classes(b);
            int use = b.house.use(3, 0);
            int[] others = {b.lambdas(1, b.local(0)), b.lambdas(2, b.local(0)), b.lambdas(2, b.local(1)),
                b.lambdas(3, b.local(1)), b.nil(), b.house.primitive(4), b.house.primitive(6), b.house.primitive(7)};
            int g = b.house.define(use);
            for (int i = 0; i < others.length; i++) {
                int next = g + 1 + i;
                int e = others[i];
                expect.same("another one", next, () -> b.house.define(e));
                expect.same("has none", 0, () -> b.house.scheme(next, 1));
            }
            expect.same("the first still has its own", 24, () -> b.house.scheme(g, 2));
        });
    }

    private void noType() {
        expect.sentence("-1 it has no type", () -> {
            wrong("a number applied", NO_TYPE, b -> b.call(b.number(1), b.number(2)));
            wrong("PLUS of TRUE", NO_TYPE, b -> b.call(b.house.primitive(2), b.trueOne()));
            wrong("IF of a number", NO_TYPE, b -> b.call(b.house.primitive(4), b.number(1)));
            wrong("IF of two kinds", NO_TYPE, b -> b.choose(b.trueOne(), b.number(1), b.trueOne()));
            wrong("CONS of two kinds", NO_TYPE, b -> b.listOf(b.number(1), b.trueOne()));
            wrong("FOLD of a number", NO_TYPE, b -> b.fold(b.house.primitive(2), b.number(1), b.number(1)));
            wrong("an argument of two kinds", NO_TYPE, b -> b.lambdas(1,
                    b.plus(b.call(b.local(0), b.number(1)), b.call(b.local(0), b.trueOne()))));
            wrong("within a part that is not used", NO_TYPE,
                    b -> b.call(b.lambdas(1, b.number(1)), b.lambdas(1, b.plus(b.trueOne(), b.local(0)))));
        });
        expect.sentence("-1 .. (also one without end", () -> {
            wrong("one applied to itself", NO_TYPE, b -> b.lambdas(1, b.call(b.local(0), b.local(0))));
            wrong("a list in itself", NO_TYPE, b -> b.lambdas(1, b.cons(b.local(0), b.local(0))));
            wrong("a part that is not used", NO_TYPE, b -> b.call(b.lambdas(1, b.number(1)),
                    b.lambdas(1, b.call(b.local(0), b.local(0)))));
            wrong("round by two", NO_TYPE, b -> b.lambdas(2,
                    b.choose(b.trueOne(), b.call(b.local(0), b.local(1)), b.call(b.local(1), b.local(0)))));
            Builder b = new Builder();
            int same = b.lambdas(1, b.local(0));
            expect.same("a type for each place", 0, () -> b.house.define(b.call(same, same)));
            int twice = b.lambdas(2, b.call(b.local(1), b.call(b.local(1), b.local(0))));
            expect.same("applied twice", 1, () -> b.house.define(twice));
        });
    }

    /** Lambdas around a local, and numbers for all of them, of which the first is 1. */
    private static int localIn(Builder b, int k, int lambdas) {
        int e = b.lambdas(lambdas, b.local(k));
        for (int i = 1; i <= lambdas; i++) {
            e = b.call(e, b.number(i));
        }
        return e;
    }

    private void localsAndLambdas() {
        expect.sentence("-1 .. or a local without its lambda)", () -> {
            for (int i = 0; i <= 9; i++) {
                int k = i;
                wrong("local " + k + " in " + k + " lambdas", NO_TYPE, b -> localIn(b, k, k));
                Builder b = new Builder();
                int e = localIn(b, k, k + 1);
                expect.same("local " + k + " in " + (k + 1) + " lambdas", 0, () -> b.house.define(e));
            }
            wrong("beside the lambda", NO_TYPE, b -> b.call(b.lambdas(1, b.local(0)), b.local(0)));
        });
        expect.sentence("a LOCAL k: the argument of the k-th LAMBDA around it (0 the next one)", () -> {
            for (int i = 0; i <= 9; i++) {
                int k = i;
                Builder b = new Builder();
                b.house.define(localIn(b, k, 10));
                b.house.run(0, 300);
                expect.same("local " + k + " in 10 lambdas", 10 - k, () -> b.house.value(0));
            }
        });
    }

    /** Class 0 with a method a -> INT, and instances for the shapes of which the bits are set. */
    private static int withInstances(Builder b, int shapes) {
        b.classWith(-1, b.house.function(2, 0));
        int constant = b.lambdas(1, b.number(1));
        for (int shape = 0; shape < 3; shape++) {
            if ((shapes >> shape & 1) == 1) {
                b.instance(0, shape, shape == 2 ? 0 : -1, constant);
            }
        }
        return b.house.use(0, 0);
    }

    private void fulfilledBy(String what, int shapes, Twins.Past argument) {
        for (int i = 0; i < 8; i++) {
            int there = i;
            Twins.Past past = b -> {
                int use = withInstances(b, there);
                return b.call(use, argument.make(b));
            };
            if ((there & shapes) == shapes) {
                Builder b = new Builder();
                int e = past.make(b);
                expect.same(what + " by " + there, 0, () -> b.house.define(e));
                expect.same(what + ": no condition", 0, () -> b.house.scheme(0, 1));
            } else {
                wrong(what + " by " + there, UNFULFILLED, past);
            }
        }
    }

    private void unfulfilled() {
        expect.sentence("-2 a condition of INT .. is not fulfilled", () -> fulfilledBy("INT", 1, b -> b.number(1)));
        expect.sentence("-2 a condition of .. BOOL .. is not fulfilled", () -> fulfilledBy("BOOL", 2, b -> b.trueOne()));
        expect.sentence("-2 a condition of .. a list .. is not fulfilled",
                () -> fulfilledBy("a list", 5, b -> b.nested(1, b.number(1))));
        expect.sentence("-2 a condition of .. a function is not fulfilled", () -> {
            wrong("a primitive", UNFULFILLED, b -> b.call(withInstances(b, 7), b.house.primitive(2)));
            wrong("a lambda", UNFULFILLED, b -> b.call(withInstances(b, 7), b.lambdas(1, b.local(0))));
            wrong("within a lambda", UNFULFILLED,
                    b -> b.lambdas(1, b.call(withInstances(b, 7), b.lambdas(1, b.local(1)))));
        });
        expect.sentence("a given one that of its scheme, with types .. which are in the classes that it says: conditions", () -> {
            Twins.Past past = b -> {
                b.house.define(withInstances(b, 1));
                return b.call(b.house.given(0), b.trueOne());
            };
            wrong("of BOOL", UNFULFILLED, past);
            Builder b = new Builder();
            past.make(b);
            expect.same("of INT", 1, () -> b.house.define(b.call(b.house.given(0), b.number(1))));
        });
    }

    private void unfulfilledInLists() {
        expect.sentence("-2 .. (a list's by what its instance asks for; in the end all of this kind)", () -> {
            fulfilledBy("a list of BOOL", 6, b -> b.nested(1, b.trueOne()));
            fulfilledBy("three lists of INT", 5, b -> b.nested(3, b.number(1)));
            fulfilledBy("three lists of BOOL", 6, b -> b.nested(3, b.trueOne()));
            wrong("a list of functions", UNFULFILLED, b -> b.call(withInstances(b, 7), b.nested(1, b.house.primitive(2))));
            wrong("three lists of functions", UNFULFILLED,
                    b -> b.call(withInstances(b, 7), b.nested(3, b.house.primitive(2))));
        });
        expect.sentence("for all lists of a type (2) that is in another class, their CONTEXT (or without one)", () -> {
            Builder b = new Builder();
            b.classWith(-1, b.house.function(2, 0));
            int constant = b.lambdas(1, b.number(1));
            b.instance(0, 2, -1, constant);
            int e = b.call(b.house.use(0, 0), b.nested(1, b.house.primitive(2)));
            expect.same("without one, a list of functions", 0, () -> b.house.define(e));
            int empty = b.call(b.house.use(0, 0), b.nil());
            expect.same("without one, an empty list of any type", 1, () -> b.house.define(empty));
        });
    }

    private void stray() {
        expect.sentence("-3 a condition remains for a variable that does not stand in its type", () -> {
            Twins.Past lost = b -> {
                int use = withInstances(b, 7);
                return b.call(use, b.house.use(b.classWith(-1, 2), 0));
            };
            wrong("of type INT", STRAY, lost);
            wrong("of a type with another variable", STRAY, b -> b.lambdas(1, b.call(b.lambdas(1, b.local(1)), lost.make(b))));
            wrong("by a list's context", STRAY, b -> b.call(withInstances(b, 7), b.nil()));
            wrong("by a given one", STRAY, b -> {
                b.house.define(withInstances(b, 7));
                return b.call(b.house.given(0), b.nil());
            });
            Builder b = new Builder();
            int use = withInstances(b, 7);
            expect.same("one that stands in it", 0, () -> b.house.define(b.lambdas(1, b.call(use, b.local(0)))));
            expect.same("one that stands in it in a list", 1,
                    () -> b.house.define(b.lambdas(1, b.call(use, b.cons(b.local(0), b.nil())))));
        });
    }

    private void variables() {
        expect.sentence("-4 there are more than eight variables in its type", () -> {
            wrong("nine", TOO_MUCH, b -> b.lambdas(9, b.number(1)));
            wrong("nine, of which the last stands in a list", TOO_MUCH, b -> b.lambdas(8, b.nil()));
            Builder b = new Builder();
            int eight = b.lambdas(8, b.number(1));
            expect.same("eight", 0, () -> b.house.define(eight));
            int due = b.arrow(2, 3, 4, 5, 6, 7, 8, 9, 0);
            expect.same("a to h", due, () -> b.house.scheme(0, 0));
            int inList = b.lambdas(7, b.nil());
            expect.same("eight, of which the last stands in a list", 1, () -> b.house.define(inList));
            int twice = b.lambdas(8, b.local(0));
            expect.same("eight, one of them twice", 2, () -> b.house.define(twice));
            int hidden = b.call(b.lambdas(1, b.number(1)), b.lambdas(9, b.number(1)));
            expect.same("nine, but not in its type", 3, () -> b.house.define(hidden));
        });
    }

    /** So many conditions: classes 0, 1, 2 side by side on variables a, b, c, and class 3 below class 2. */
    private static int sides(Builder b, int many) {
        int toInt = b.house.function(2, 0);
        int[] use = new int[3];
        for (int c = 0; c < 3; c++) {
            use[c] = b.house.use(b.classWith(-1, toInt), 0);
        }
        b.classWith(2, toInt);
        int[] local = {b.local(0), b.local(1), b.local(2)};
        int sum = b.call(use[0], local[0]);
        for (int i = 1; i < many; i++) {
            sum = b.plus(b.call(use[i % 3], local[i / 3]), sum);
        }
        return sum;
    }

    private void conditions() {
        expect.sentence("-4 .. or more than eight conditions that remain", () -> {
            wrong("nine", TOO_MUCH, b -> b.lambdas(3, sides(b, 9)));
            Builder b = new Builder();
            int sum = sides(b, 8);
            int eight = b.lambdas(3, sum);
            expect.same("eight", 0, () -> b.house.define(eight));
            expect.same("how many", 8, () -> b.house.scheme(0, 1));
            int[] due = {0, 8, 1, 9, 17, 2, 10, 18};
            for (int i = 0; i < 8; i++) {
                int at = i;
                expect.same("condition " + at, due[at], () -> b.house.scheme(0, 2 + at));
            }
            int below = b.lambdas(3, b.plus(b.call(b.house.use(3, 0), b.local(1)), sum));
            expect.same("nine, of which eight remain", 1, () -> b.house.define(below));
            expect.same("how many", 8, () -> b.house.scheme(1, 1));
            int again = b.lambdas(3, b.plus(b.call(b.house.use(0, 0), b.local(0)), sum));
            expect.same("nine, of which two are the same", 2, () -> b.house.define(again));
        });
    }

    private void lists() {
        expect.sentence("-4 .. a condition was followed through more than three lists", () -> {
            wrong("four of INT", TOO_MUCH, b -> b.call(withInstances(b, 7), b.nested(4, b.number(1))));
            wrong("four of BOOL", TOO_MUCH, b -> b.call(withInstances(b, 7), b.nested(4, b.trueOne())));
            wrong("four of a variable", TOO_MUCH,
                    b -> b.lambdas(1, b.call(withInstances(b, 7), b.nested(4, b.local(0)))));
            wrong("eight of INT", TOO_MUCH, b -> b.call(withInstances(b, 7), b.nested(8, b.number(1))));
            wrong("four by a given one", TOO_MUCH, b -> {
                b.house.define(withInstances(b, 7));
                return b.call(b.house.given(0), b.nested(4, b.number(1)));
            });
            Builder b = new Builder();
            int use = withInstances(b, 7);
            expect.same("three of INT", 0, () -> b.house.define(b.call(use, b.nested(3, b.number(1)))));
            expect.same("three of BOOL", 1, () -> b.house.define(b.call(use, b.nested(3, b.trueOne()))));
            int three = b.lambdas(1, b.call(use, b.nested(3, b.local(0))));
            expect.same("three of a variable", 2, () -> b.house.define(three));
            expect.same("which remains", 0, () -> b.house.scheme(2, 2));
            expect.same("three by a given one", 3,
                    () -> b.house.define(b.call(b.house.given(2), b.nested(3, b.number(1)))));
        });
    }

    /** Lists are in class c by class c + 1, as far as class 4, in which all lists are. */
    private static int chain(Builder b, int first, int lists) {
        int toInt = b.house.function(2, 0);
        int constant = b.lambdas(1, b.number(1));
        for (int c = 0; c < 5; c++) {
            b.classWith(-1, toInt);
        }
        for (int c = 0; c < 5; c++) {
            b.instance(c, 2, c == 4 ? -1 : c + 1, constant);
        }
        return b.call(b.house.use(first, 0), b.nested(lists, b.number(1)));
    }

    private void listsByContexts() {
        expect.sentence("-4 .. (to what they are of)", () -> {
            wrong("through four, and not the fifth", TOO_MUCH, b -> chain(b, 0, 5));
            int[] most = {5, 10, 10, 10};
            for (int first = 1; first <= 4; first++) {
                Builder b = new Builder();
                int e = chain(b, first, most[first - 1]);
                int followed = 4 - first;
                expect.same("through " + followed + ", and no further", 0, () -> b.house.define(e));
            }
            wrong("through four, to INT", UNFULFILLED, b -> chain(b, 0, 4));
        });
    }

    private static int filledTo(Builder b, int types, int e) {
        b.fillTypesTo(types);
        return e;
    }

    private void types() {
        expect.sentence("-4 .. or the type .. would be beyond 40", () -> {
            wrong("a list, 40 there", TOO_MUCH, b -> filledTo(b, 40, b.nil()));
            wrong("a function, 40 there", TOO_MUCH, b -> filledTo(b, 40, b.lambdas(1, b.local(0))));
            Builder b = new Builder();
            int e = filledTo(b, 39, b.nil());
            expect.same("a list, 39 there", 0, () -> b.house.define(e));
            expect.same("the fortieth", 39, () -> b.house.scheme(0, 0));
            expect.same("the same one, 40 there", 1, () -> b.house.define(e));
            expect.same("INT, 40 there", 2, () -> b.house.define(b.number(1)));
            int old = b.cons(b.cons(b.trueOne(), b.nil()), b.nil());
            expect.same("an old one, 40 there", 3, () -> b.house.define(old));
            int inside = b.call(b.lambdas(1, b.number(1)), b.house.primitive(7));
            expect.same("types of places that are not in it", 4, () -> b.house.define(inside));
        });
        expect.sentence("-4 .. the type (and those in it) would be beyond 40", () -> {
            int[] isNew = {0, 0, 2, 2, 3, 1, 3, 6};
            for (int k = 2; k <= 7; k++) {
                int which = k;
                int room = isNew[k];
                wrong("primitive " + k + ", room for one less", TOO_MUCH,
                        b -> filledTo(b, 41 - room, b.house.primitive(which)));
                Builder b = new Builder();
                int e = filledTo(b, 40 - room, b.house.primitive(which));
                expect.same("primitive " + k + ", just enough room", 0, () -> b.house.define(e));
                expect.same("the fortieth", 39, () -> b.house.scheme(0, 0));
                expect.badState("full", () -> b.house.list(39));
            }
        });
        expect.sentence("-4 .. the type (and those in it) would be beyond 40: by its depth alone", () -> {
            Twins.Past past = b -> {
                b.house.define(b.nested(14, b.number(1)));
                b.house.define(b.nested(14, b.house.given(0)));
                return b.nested(3, b.house.given(1));
            };
            wrong("thirty-one lists", TOO_MUCH, past);
            Builder b = new Builder();
            past.make(b);
            expect.same("thirty lists", 2, () -> b.house.define(b.nested(2, b.house.given(1))));
            expect.same("the fortieth", 39, () -> b.house.scheme(2, 0));
        });
    }

    private void orderOfTypes() {
        expect.sentence("types that are new get their numbers from left to right, those that stand in one ahead of it", () -> {
            DictionaryHouse x = new DictionaryHouse();
            expect.same("FOLD", 15, () -> x.scheme(x.define(x.primitive(7)), 0));
            expect.same("b -> b", 10, () -> x.function(3, 3));
            expect.same("a -> b -> b", 11, () -> x.function(2, 10));
            expect.same("list of a", 12, () -> x.list(2));
            expect.same("list of a -> b", 13, () -> x.function(12, 3));
            expect.same("b -> list of a -> b", 14, () -> x.function(3, 13));
            expect.same("(a -> b -> b) -> b -> list of a -> b", 15, () -> x.function(11, 14));
            expect.same("no other was made", 16, () -> x.list(9));
        });
        expect.sentence("types that are new", () -> {
            DictionaryHouse x = new DictionaryHouse();
            x.list(2);
            x.function(3, 3);
            expect.same("FOLD, where two are there", 15, () -> x.scheme(x.define(x.primitive(7)), 0));
            expect.same("a -> b -> b", 12, () -> x.function(2, 11));
            expect.same("list of a -> b", 13, () -> x.function(10, 3));
            expect.same("b -> list of a -> b", 14, () -> x.function(3, 13));
        });
    }

    private void firstOfThese() {
        expect.sentence("WRONG, the first of these", () -> {
            for (int i = 0; i < WrongParts.WAYS; i++) {
                for (int j = 0; j < WrongParts.WAYS; j++) {
                    int one = i;
                    int other = j;
                    int due = WrongParts.dueOfDefinition(one, other);
                    String what = "parts " + one + " and " + other;
                    if (due != 0) {
                        wrong(what, due, b -> WrongParts.both(b, one, other));
                    } else {
                        Builder b = new Builder();
                        int e = WrongParts.both(b, one, other);
                        expect.same(what, 0, () -> b.house.define(e));
                    }
                }
            }
        });
        expect.sentence("WRONG, the first of these: ahead of the other kinds of -4", () -> {
            for (int i = 0; i < WrongParts.WAYS; i++) {
                int way = i;
                int due = WrongParts.dueOfDefinition(way, way);
                int first = due == 0 ? TOO_MUCH : due;
                wrong("part " + way + " and nine variables", first, b -> b.lambdas(9, WrongParts.both(b, way, way)));
                wrong("part " + way + " and no room for its type", first, b -> {
                    int e = b.nested(1, WrongParts.both(b, way, way));
                    return filledTo(b, 40, e);
                });
            }
            wrong("-2 and nine conditions", UNFULFILLED,
                    b -> b.lambdas(3, b.plus(sides(b, 9), b.call(b.house.use(0, 0), b.number(1)))));
        });
    }

    private void firstOfTheseInLists() {
        expect.sentence("WRONG, the first of these: at the end of more than three lists", () -> {
            wrong("BOOL, which is not in it", UNFULFILLED, b -> b.call(withInstances(b, 5), b.nested(4, b.trueOne())));
            wrong("a function", UNFULFILLED, b -> b.call(withInstances(b, 7), b.nested(4, b.house.primitive(2))));
            wrong("a variable that is not in the type", STRAY, b -> b.call(withInstances(b, 7), b.nested(3, b.nil())));
        });
    }

    /** So many definitions of the number 0, which is expression 0; expression 1 is wrong. */
    private static int defined(Builder b, int many) {
        int e = b.number(0);
        b.local(0);
        for (int g = 0; g < many; g++) {
            b.house.define(e);
        }
        return many - 1;
    }

    private void definitions() {
        expect.sentence("A new definition, of an expression: its number, from 0", () -> {
            DictionaryHouse x = new DictionaryHouse();
            x.number(1);
            for (int i = 0; i < 20; i++) {
                int g = i;
                expect.same("definition " + g, g, () -> x.define(0));
            }
        });
        expect.sentence("or what is WRONG, and there is none", () -> {
            twins.leavesAll("the first one", NO_TYPE, b -> defined(b, 0), (x, last) -> x.define(1));
            twins.leavesAll("the last one", NO_TYPE, b -> defined(b, 19), (x, last) -> x.define(1));
            Builder b = new Builder();
            defined(b, 0);
            b.house.define(1);
            expect.badArgument("no scheme", () -> b.house.scheme(0, 0));
            expect.badArgument("no run", () -> b.house.run(0, 300));
            expect.same("its number is the next one's", 0, () -> b.house.define(0));
        });
        expect.sentence("define: IllegalArgumentException, when there is no such expression", () -> {
            for (int no : new int[] {Integer.MIN_VALUE, -1, 2, 199, 200, Integer.MAX_VALUE}) {
                twins.badArgument("expression " + no, b -> defined(b, 1), (x, last) -> x.define(no));
                twins.badArgument("expression " + no + ", full", b -> defined(b, 20), (x, last) -> x.define(no));
            }
        });
        expect.sentence("define: IllegalStateException, when there are 20", () -> {
            twins.badState("a right one", b -> defined(b, 20), (x, last) -> x.define(0));
            twins.badState("a wrong one", b -> defined(b, 20), (x, last) -> x.define(1));
            Builder b = new Builder();
            defined(b, 19);
            expect.same("when there are 19", 19, () -> b.house.define(0));
            expect.same("it has a scheme", 0, () -> b.house.scheme(19, 0));
            expect.same("and runs", 1, () -> b.house.run(19, 300));
            expect.same("and can be given", 2, () -> b.house.given(19));
        });
    }

    private void schemeRefused() {
        expect.sentence("scheme: IllegalArgumentException, when there is no such definition", () -> {
            for (int no : new int[] {Integer.MIN_VALUE, -1, 3, 19, 20, Integer.MAX_VALUE}) {
                twins.badArgument("definition " + no, b -> defined(b, 3), (x, last) -> x.scheme(no, 0));
            }
            twins.badArgument("definition 20, full", b -> defined(b, 20), (x, last) -> x.scheme(20, 0));
            Builder b = new Builder();
            int last = defined(b, 3);
            expect.same("the last that is there", 0, () -> b.house.scheme(last, 0));
        });
        expect.sentence("scheme: IllegalArgumentException, when there is no such .. what", () -> {
            for (int i = 0; i <= 8; i++) {
                int many = i;
                Twins.Past past = b -> {
                    int e = many == 0 ? b.number(1) : sides(b, many);
                    return b.house.define(b.lambdas(3, e));
                };
                for (int no : new int[] {Integer.MIN_VALUE, -1, 2 + many, 3 + many, 10, Integer.MAX_VALUE}) {
                    twins.badArgument(many + " conditions, what " + no, past, (x, g) -> x.scheme(g, no));
                }
                Builder b = new Builder();
                int g = past.make(b);
                expect.same("how many", many, () -> b.house.scheme(g, 1));
                for (int j = 0; j < 2 + many; j++) {
                    int what = j;
                    expect.same("what " + what, true, () -> b.house.scheme(g, what) >= 0);
                }
            }
        });
    }
}
