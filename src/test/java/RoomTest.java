import java.lang.management.ManagementFactory;

/** All calls of a run live in one room: the dearest calls must not make anything new. */
public final class RoomTest {
    private static final int CALLS = 512;
    /** The measuring itself makes a little. */
    private static final long MOST_BYTES = 4096;
    private static final long MOST_BYTES_OF_OBJECT = 600_000;

    public static void main(String[] args) {
        measured(() -> { });
        Expect expect = new Expect();
        long[] object = new long[1];
        object[0] = measured(() -> new DictionaryHouse());
        expect.same("an object is small enough: " + object[0], true, () -> object[0] < MOST_BYTES_OF_OBJECT);

        Builder b = new Builder();
        DictionaryHouse x = b.house;
        int c = b.classWith(-1, x.function(2, 2));
        int use = x.use(c, 0);
        int body = b.lambdas(1, b.fold(x.primitive(6), b.nil(), b.call(use, b.local(0))));
        b.instance(c, 0, -1, use);
        b.instance(c, 2, c, body);
        int lists = x.define(b.call(use, b.nested(1, b.number(1))));
        int wrong = b.call(use, b.nested(1, b.trueOne()));
        int wrongForBool = b.lambdas(1, b.call(use, b.nested(3, b.local(0))));
        expect.same("a run of 300 steps", -1, () -> x.run(lists, 300));
        expect.same("a wrong definition", -2, () -> x.define(wrong));
        expect.same("a wrong instance", -1, () -> b.instance(c, 1, -1, wrongForBool));
        int[] sink = new int[1];
        long bytes = measured(() -> {
            for (int i = 0; i < CALLS; i++) {
                sink[0] += x.run(lists, 300) + x.define(wrong) + b.instance(c, 1, -1, wrongForBool);
            }
        });
        expect.same("calls make nothing: " + bytes, true, () -> bytes < MOST_BYTES);
        expect.end();
    }

    private static long measured(Runnable what) {
        com.sun.management.ThreadMXBean threads =
                (com.sun.management.ThreadMXBean) ManagementFactory.getThreadMXBean();
        long id = Thread.currentThread().getId();
        long before = threads.getThreadAllocatedBytes(id);
        what.run();
        return threads.getThreadAllocatedBytes(id) - before;
    }
}
