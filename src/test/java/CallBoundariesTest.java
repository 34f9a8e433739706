import java.util.ArrayList;
import java.util.List;

/** The sentence "An object is used for at most 512 calls after it has been made", call by call. */
public final class CallBoundariesTest {
    private static final String SENTENCE = "An object is used for at most 512 calls after it has been made";
    private static final int MOST_CALLS = 512;

    private final Expect expect = new Expect();
    private DictionaryHouse x;
    private int calls;

    public static void main(String[] args) {
        CallBoundariesTest test = new CallBoundariesTest();
        test.fullToTheBrim();
        test.dearestCalls();
        test.refusedCalls();
        test.manyRuns();
        test.later();
        test.expect.end();
    }

    private void begin() {
        x = new DictionaryHouse();
        calls = 0;
    }

    private void due(String what, Object answer, Expect.Call call) {
        calls++;
        expect.same("call " + calls + ", " + what, answer, call);
    }

    /** All of everything: 40 types, 6 classes with 18 methods and 18 instances, 200 expressions, 20 definitions. */
    private void fill() {
        for (int t = 10; t < 40; t++) {
            int of = t == 10 ? 2 : t - 1;
            due("list", t, () -> x.list(of));
        }
        for (int i = 0; i < 6; i++) {
            int c = i;
            due("type", c, () -> x.type(c - 1));
            for (int m = 0; m < 3; m++) {
                due("method", m, () -> x.method(c, 2));
            }
        }
        due("number", 0, () -> x.number(50));
        due("primitive", 1, () -> x.primitive(0));
        due("primitive", 2, () -> x.primitive(5));
        for (int i = 0; i < 18; i++) {
            int c = i / 3;
            int shape = i % 3;
            due("instance", 0, () -> x.instance(c, shape, -1, shape, shape, shape));
        }
        for (int i = 3; i < 200; i++) {
            int e = i;
            due("number", e, () -> x.number(e));
        }
        for (int i = 0; i < 20; i++) {
            int g = i;
            due("define", g, () -> x.define(180 + g));
        }
    }

    private void fullToTheBrim() {
        expect.sentence(SENTENCE, () -> {
            begin();
            fill();
            for (int g = 0; calls < MOST_CALLS - 1; g = (g + 1) % 20) {
                int which = g;
                due("run", 1, () -> x.run(which, 300));
                int last = 180 + which;
                if (calls < MOST_CALLS - 1) {
                    due("value", last, () -> x.value(0));
                }
            }
            due("the last one", 1, () -> x.value(-1));
            expect.same("so many calls", MOST_CALLS, () -> calls);
        });
        expect.sentence(SENTENCE, () -> {
            begin();
            fill();
            while (calls < MOST_CALLS) {
                due("is", true, () -> x.is(5, 39));
            }
        });
    }

    /** A definition with many places of a long scheme, found wrong over and over. */
    private void dearestCalls() {
        expect.sentence(SENTENCE, () -> {
            begin();
            due("number", 0, () -> x.number(1));
            for (int i = 1; i <= 8; i++) {
                int e = i;
                due("lambda", e, () -> x.lambda(e - 1));
            }
            due("define", 0, () -> x.define(8));
            due("given", 9, () -> x.given(0));
            for (int i = 10; i < 38; i++) {
                int e = i;
                due("apply", e, () -> x.apply(9, e - 1));
            }
            due("apply", 38, () -> x.apply(0, 37));
            due("define", 1, () -> x.define(37));
            while (calls < MOST_CALLS - 1) {
                due("define", -1, () -> x.define(38));
            }
            due("define", 2, () -> x.define(37));
        });
    }

    private void refusedCalls() {
        expect.sentence(SENTENCE, () -> {
            begin();
            while (calls < MOST_CALLS - 2) {
                int no = calls;
                due("list", "IllegalArgumentException", () -> x.list(10 + no));
            }
            due("number", 0, () -> x.number(4));
            due("define", 0, () -> x.define(0));
        });
    }

    /** Runs without end, each of 300 steps, and in the end one that goes through. */
    private void manyRuns() {
        expect.sentence(SENTENCE, () -> {
            begin();
            due("function", 10, () -> x.function(2, 2));
            due("type", 0, () -> x.type(-1));
            due("method", 0, () -> x.method(0, 10));
            due("use", 0, () -> x.use(0, 0));
            due("instance", 0, () -> x.instance(0, 0, -1, 0, 0, 0));
            due("number", 1, () -> x.number(1));
            due("apply", 2, () -> x.apply(0, 1));
            due("define", 0, () -> x.define(2));
            due("define", 1, () -> x.define(1));
            while (calls < MOST_CALLS - 2) {
                due("run", -1, () -> x.run(0, 300));
            }
            due("run", 1, () -> x.run(1, 300));
            due("value", 1, () -> x.value(0));
        });
    }

    /** What they answer is free, but by LANGUAGE.md nothing else than these exceptions may come. */
    private void later() {
        expect.sentence("what later calls answer is free", () -> {
            begin();
            fill();
            List<String> foreign = new ArrayList<>();
            for (int i = calls; i < 2 * MOST_CALLS; i++) {
                int n = i % 50 - 5;
                Expect.Call[] all = {() -> x.list(n), () -> x.function(n, n), () -> x.type(n), () -> x.method(n, n),
                    () -> x.number(n), () -> x.primitive(n), () -> x.local(n), () -> x.lambda(n), () -> x.apply(n, n),
                    () -> x.use(n, n), () -> x.given(n), () -> x.instance(n, n, n, n, n, n), () -> x.define(n),
                    () -> x.scheme(n, n), () -> x.is(n, n), () -> x.run(n, n), () -> x.value(n)};
                String got = Expect.outcome(all[i % all.length]);
                boolean isDocumented = got.equals("IllegalArgumentException") || got.equals("IllegalStateException");
                if (!isDocumented && !got.matches("-?[0-9]+|true|false")) {
                    foreign.add(got);
                }
            }
            expect.same("nothing foreign is thrown", "[]", () -> foreign);
        });
    }
}
