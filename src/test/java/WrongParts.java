/**
 * Parts of expressions, each wrong in one way or right, of which pairs are put together: whatever
 * stands first, and whatever is right beside it, the first of what is WRONG is told.
 */
final class WrongParts {
    /** The class for whose method, a -> INT, the whole can be: it has no instance. */
    static final int FREE = 0;
    /** In this one are INT, and lists of what is in it. */
    static final int USUAL = 1;
    private static final int OF_ANY_TYPE = 2;
    private static final int ALL_LISTS = 3;
    private static final int EMPTY = 4;

    static final int WAYS = 12;
    /** What a definition of the whole is due, for each way; 0 when it is right. */
    private static final int[] DEFINED = {-1, -2, -2, -2, -3, -4, 0, 0, 0, 0, 0, -2};
    /** What an instance of the class FREE for lists in the context USUAL is due. */
    private static final int[] FOR_LISTS = {-1, -2, -2, -2, -3, -4, 0, 0, 0, 0, -3, -2};

    private WrongParts() {
    }

    static int dueOfDefinition(int one, int other) {
        return first(DEFINED[one], DEFINED[other]);
    }

    static int dueForLists(int one, int other) {
        return first(FOR_LISTS[one], FOR_LISTS[other]);
    }

    private static int first(int one, int other) {
        return one == 0 || other == 0 ? one + other : Math.max(one, other);
    }

    /** A lambda with both parts in it. */
    static int both(Builder b, int one, int other) {
        prepare(b);
        int first = part(b, one);
        return b.lambdas(1, b.plus(first, part(b, other)));
    }

    private static void prepare(Builder b) {
        int toInt = b.house.function(2, 0);
        b.classWith(-1, toInt);
        b.classWith(-1, toInt);
        b.classWith(-1, 2);
        b.classWith(-1, toInt);
        b.classWith(-1, toInt);
        int constant = b.lambdas(1, b.number(1));
        b.instance(USUAL, 0, -1, constant);
        b.instance(USUAL, 2, USUAL, constant);
        b.instance(ALL_LISTS, 2, -1, constant);
    }

    private static int used(Builder b, int c, int argument) {
        return b.call(b.house.use(c, 0), argument);
    }

    /** A part that comes to INT; the lambda around it has a list, if any is told. */
    private static int part(Builder b, int way) {
        switch (way) {
            case 0:
                return b.plus(b.number(1), b.trueOne());
            case 1:
                return used(b, USUAL, b.falseOne());
            case 2:
                return used(b, EMPTY, b.nested(1, b.number(1)));
            case 3:
                return used(b, USUAL, b.house.primitive(2));
            case 4:
                return used(b, USUAL, b.house.use(OF_ANY_TYPE, 0));
            case 5:
                return used(b, USUAL, b.nested(4, b.number(1)));
            case 6:
                return used(b, USUAL, b.number(1));
            case 7:
                return used(b, USUAL, b.nested(3, b.number(1)));
            case 8:
                return used(b, ALL_LISTS, b.nested(1, b.trueOne()));
            case 9:
                return summed(b, USUAL);
            case 10:
                return summed(b, EMPTY);
            default:
                return used(b, USUAL, b.nested(4, b.trueOne()));
        }
    }

    /** What the argument's list is of must be in the class. */
    private static int summed(Builder b, int c) {
        int step = b.lambdas(2, b.plus(used(b, c, b.local(1)), b.local(0)));
        return b.fold(step, b.number(0), b.local(0));
    }
}
