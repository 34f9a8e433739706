/** Shorter words for building expressions in the project's tests. */
final class Builder {
    static final int INT = 0;
    static final int BOOL = 1;
    static final int A = 2;
    static final int B = 3;
    static final int NONE = DictionaryHouse.NONE;

    final DictionaryHouse house = new DictionaryHouse();

    int trueOne() {
        return house.primitive(0);
    }

    int falseOne() {
        return house.primitive(1);
    }

    int plus(int x, int y) {
        return call(house.primitive(2), x, y);
    }

    int less(int x, int y) {
        return call(house.primitive(3), x, y);
    }

    int choose(int test, int x, int y) {
        return call(house.primitive(4), test, x, y);
    }

    int nil() {
        return house.primitive(5);
    }

    int cons(int head, int tail) {
        return call(house.primitive(6), head, tail);
    }

    int fold(int f, int z, int list) {
        return call(house.primitive(7), f, z, list);
    }

    int number(int v) {
        return house.number(v);
    }

    int local(int k) {
        return house.local(k);
    }

    int lambdas(int many, int body) {
        int e = body;
        for (int i = 0; i < many; i++) {
            e = house.lambda(e);
        }
        return e;
    }

    int call(int f, int... xs) {
        int e = f;
        for (int x : xs) {
            e = house.apply(e, x);
        }
        return e;
    }

    /** A list with these in it, in this order. */
    int listOf(int... all) {
        int e = nil();
        for (int i = all.length - 1; i >= 0; i--) {
            e = cons(all[i], e);
        }
        return e;
    }

    /** One that stands in so many lists of one each. */
    int nested(int lists, int e) {
        int inner = e;
        for (int i = 0; i < lists; i++) {
            inner = cons(inner, nil());
        }
        return inner;
    }

    /** A sum of so many places, 1, 5, 9, .., which takes as many steps. */
    int sumOf(int places) {
        int one = number(1);
        int e = one;
        for (int has = 1; has < places; has += 4) {
            e = plus(e, one);
        }
        return e;
    }

    int arrow(int... all) {
        int t = all[all.length - 1];
        for (int i = all.length - 2; i >= 0; i--) {
            t = house.function(all[i], t);
        }
        return t;
    }

    /** A class with one method of the type. */
    int classWith(int above, int type) {
        int c = house.type(above);
        house.method(c, type);
        return c;
    }

    int instance(int c, int shape, int context, int body) {
        return house.instance(c, shape, context, body, NONE, NONE);
    }

    void fillTypesTo(int count) {
        int t = house.list(Builder.BOOL);
        while (t < count - 1) {
            t = house.list(t);
        }
    }
}
