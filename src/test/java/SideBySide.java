import java.util.ArrayList;
import java.util.List;
import java.util.Map;
import java.util.TreeMap;

/** The program and PlainHouse side by side: each call is made of both, and their answers compared. */
final class SideBySide {
    private final DictionaryHouse house = new DictionaryHouse();
    private final PlainHouse plain = new PlainHouse();
    private final List<String> calls = new ArrayList<>();
    private final Map<String, Integer> seen;
    private boolean failed;

    SideBySide(Map<String, Integer> seen) {
        this.seen = seen;
    }

    PlainHouse plain() {
        return plain;
    }

    boolean hasFailed() {
        return failed;
    }

    int callCount() {
        return calls.size();
    }

    String story() {
        return String.join("\n  ", calls);
    }

    /** The number that was answered, or another one when something was thrown. */
    static int numberIn(String answer, int otherwise) {
        return answer.endsWith("Exception") ? otherwise : Integer.parseInt(answer);
    }

    String list(int t) {
        return both("list", "(" + t + ")", () -> house.list(t), () -> plain.list(t));
    }

    String function(int t, int u) {
        return both("function", "(" + t + ", " + u + ")", () -> house.function(t, u), () -> plain.function(t, u));
    }

    String type(int above) {
        return both("type", "(" + above + ")", () -> house.type(above), () -> plain.type(above));
    }

    String method(int c, int t) {
        return both("method", "(" + c + ", " + t + ")", () -> house.method(c, t), () -> plain.method(c, t));
    }

    String number(int v) {
        return both("number", "(" + v + ")", () -> house.number(v), () -> plain.number(v));
    }

    String primitive(int k) {
        return both("primitive", "(" + k + ")", () -> house.primitive(k), () -> plain.primitive(k));
    }

    String local(int k) {
        return both("local", "(" + k + ")", () -> house.local(k), () -> plain.local(k));
    }

    String lambda(int body) {
        return both("lambda", "(" + body + ")", () -> house.lambda(body), () -> plain.lambda(body));
    }

    String apply(int f, int x) {
        return both("apply", "(" + f + ", " + x + ")", () -> house.apply(f, x), () -> plain.apply(f, x));
    }

    String use(int c, int m) {
        return both("use", "(" + c + ", " + m + ")", () -> house.use(c, m), () -> plain.use(c, m));
    }

    String given(int g) {
        return both("given", "(" + g + ")", () -> house.given(g), () -> plain.given(g));
    }

    String instance(int c, int shape, int context, int[] m) {
        String with = "(" + c + ", " + shape + ", " + context + ", " + m[0] + ", " + m[1] + ", " + m[2] + ")";
        return both("instance", with, () -> house.instance(c, shape, context, m[0], m[1], m[2]),
                () -> plain.instance(c, shape, context, m[0], m[1], m[2]));
    }

    /** With the whole scheme of what was defined, and the first what that it has not. */
    String define(int e) {
        String answer = both("define", "(" + e + ")", () -> house.define(e), () -> plain.define(e));
        int g = numberIn(answer, -1);
        String part = "";
        for (int what = 0; g >= 0 && !part.endsWith("Exception"); what++) {
            part = scheme(g, what);
        }
        return answer;
    }

    String scheme(int g, int what) {
        return both("scheme", "(" + g + ", " + what + ")", () -> house.scheme(g, what), () -> plain.scheme(g, what));
    }

    String is(int c, int t) {
        return both("is", "(" + c + ", " + t + ")", () -> house.is(c, t) ? 1 : 0, () -> plain.is(c, t) ? 1 : 0);
    }

    /** With some of what it came to. */
    String run(int g, int steps) {
        String answer = both("run", "(" + g + ", " + steps + ")", () -> house.run(g, steps), () -> plain.run(g, steps));
        for (int what = -1; what < 3; what++) {
            value(what);
        }
        return answer;
    }

    String value(int what) {
        return both("value", "(" + what + ")", () -> house.value(what), () -> plain.value(what));
    }

    private String both(String name, String with, Expect.Call call, Expect.Call due) {
        String want = wanted(due);
        String got = Expect.outcome(call);
        calls.add(name + with + " " + got);
        if (!got.equals(want)) {
            calls.add("due is " + want);
            failed = true;
        }
        boolean isWrong = want.endsWith("Exception") || want.startsWith("-") && !name.equals("value");
        seen.merge(name + " " + (isWrong ? want : "fine"), 1, Integer::sum);
        return want;
    }

    /** What else PlainHouse may throw tells that the test itself is at its end. */
    private static String wanted(Expect.Call due) {
        try {
            return String.valueOf(due.answer());
        } catch (IllegalArgumentException | IllegalStateException thrown) {
            return thrown.getClass().getSimpleName();
        }
    }

    /** A run of calls that is made by chance. */
    interface Play {
        void play();
    }

    /** Plays with as many seeds as are asked for, or the usual number; ends the test when one is wrong. */
    abstract static class Series {
        abstract Play newPlay(long seed, SideBySide sides);

        void playAll(String[] args, int usual) {
            int runs = args.length > 0 ? Integer.parseInt(args[0]) : usual;
            long first = args.length > 1 ? Long.parseLong(args[1]) : 1;
            Map<String, Integer> seen = new TreeMap<>();
            int wrong = 0;
            int givenUp = 0;
            for (long seed = first; seed < first + runs && wrong < 5; seed++) {
                SideBySide sides = new SideBySide(seen);
                try {
                    newPlay(seed, sides).play();
                } catch (PlainHouse.TooLong tooLong) {
                    givenUp++;
                }
                if (sides.hasFailed()) {
                    wrong++;
                    System.out.println("seed " + seed + ": " + sides.story());
                }
            }
            System.out.println(runs + " runs, " + wrong + " wrong, " + givenUp + " given up; " + seen);
            if (wrong > 0 || givenUp > runs / 10) {
                System.exit(1);
            }
        }
    }
}
