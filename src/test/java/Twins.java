import java.util.ArrayList;
import java.util.List;

/**
 * Objects with the same past, of which one gets a call more: that call must answer as is due, and
 * leave the object as it was. So whatever is asked of both from then on has the same answers.
 */
final class Twins {
    /** What is done to both; answers a number that the call may need. */
    interface Past {
        int make(Builder b);
    }

    /** The call that only one of them gets. */
    interface Extra {
        int call(DictionaryHouse x, int made);
    }

    /** Some 240 calls at most, so that with its past an object stays below 512. */
    private interface Probe {
        void ask(DictionaryHouse x, List<String> answers);
    }

    private static final int MOST_TYPES = 40;
    private static final int MOST_CLASSES = 6;
    private static final int MOST_EXPRESSIONS = 200;
    private static final int MOST_DEFINITIONS = 20;

    private final Expect expect;
    private final Probe[] probes = {
        Twins::askMembers, Twins::askSchemes, Twins::askValues, Twins::makeDefinitions,
        Twins::makeLambdas, Twins::makeTypes, Twins::makeClasses, Twins::makeUses, Twins::makeProgram,
    };

    Twins(Expect expect) {
        this.expect = expect;
    }

    void badArgument(String what, Past past, Extra extra) {
        leavesAll(what, "IllegalArgumentException", past, extra);
    }

    void badState(String what, Past past, Extra extra) {
        leavesAll(what, "IllegalStateException", past, extra);
    }

    void leavesAll(String what, Object due, Past past, Extra extra) {
        for (Probe probe : probes) {
            Builder one = new Builder();
            Builder other = new Builder();
            int made = past.make(one);
            past.make(other);
            expect.same(what, due, () -> extra.call(one.house, made));
            List<String> got = new ArrayList<>();
            List<String> want = new ArrayList<>();
            probe.ask(one.house, got);
            probe.ask(other.house, want);
            expect.same(what + " leaves all as it was", "", () -> firstDifference(got, want));
        }
    }

    private static String firstDifference(List<String> got, List<String> want) {
        for (int i = 0; i < got.size(); i++) {
            if (!got.get(i).equals(want.get(i))) {
                return got.get(i) + " instead of " + want.get(i);
            }
        }
        return "";
    }

    private static void ask(List<String> answers, String what, Expect.Call call) {
        answers.add(what + " " + Expect.outcome(call));
    }

    private static void askMembers(DictionaryHouse x, List<String> answers) {
        for (int i = 0; i < MOST_CLASSES; i++) {
            for (int j = 0; j < MOST_TYPES; j++) {
                int c = i;
                int t = j;
                ask(answers, "is(" + c + ", " + t + ")", () -> x.is(c, t));
            }
        }
    }

    private static void askSchemes(DictionaryHouse x, List<String> answers) {
        for (int i = 0; i <= MOST_DEFINITIONS; i++) {
            for (int j = 0; j <= 10; j++) {
                int g = i;
                int what = j;
                ask(answers, "scheme(" + g + ", " + what + ")", () -> x.scheme(g, what));
            }
        }
    }

    private static void askValues(DictionaryHouse x, List<String> answers) {
        for (int i = -2; i < 40; i++) {
            int what = i;
            ask(answers, "value(" + what + ")", () -> x.value(what));
        }
        for (int i = 0; i <= MOST_DEFINITIONS; i++) {
            int g = i;
            ask(answers, "run(" + g + ", 300)", () -> x.run(g, 300));
            ask(answers, "value(-1)", () -> x.value(-1));
            ask(answers, "value(0)", () -> x.value(0));
        }
    }

    private static void makeDefinitions(DictionaryHouse x, List<String> answers) {
        for (int i = 0; i < MOST_EXPRESSIONS; i++) {
            int e = i;
            ask(answers, "define(" + e + ")", () -> x.define(e));
        }
        for (int i = 0; i <= MOST_DEFINITIONS; i++) {
            int g = i;
            ask(answers, "scheme(" + g + ", 0)", () -> x.scheme(g, 0));
        }
    }

    private static void makeLambdas(DictionaryHouse x, List<String> answers) {
        for (int i = 0; i < MOST_EXPRESSIONS; i++) {
            int e = i;
            ask(answers, "lambda(" + e + ")", () -> x.lambda(e));
        }
    }

    private static void makeTypes(DictionaryHouse x, List<String> answers) {
        for (int i = 0; i < MOST_TYPES; i++) {
            int t = i;
            ask(answers, "list(" + t + ")", () -> x.list(t));
            ask(answers, "function(0, " + t + ")", () -> x.function(0, t));
        }
    }

    private static void makeClasses(DictionaryHouse x, List<String> answers) {
        for (int i = 0; i < MOST_CLASSES; i++) {
            int c = i;
            ask(answers, "method(" + c + ", 2)", () -> x.method(c, 2));
            for (int j = 0; j < 3; j++) {
                int shape = j;
                ask(answers, "instance(" + c + ", " + shape + ")", () -> x.instance(c, shape, -1, 0, 0, 0));
            }
            ask(answers, "instance(" + c + ") in itself", () -> x.instance(c, 2, c, 1, 1, 1));
            ask(answers, "type(" + c + ")", () -> x.type(c));
        }
        ask(answers, "type(-1)", () -> x.type(-1));
    }

    private static void makeUses(DictionaryHouse x, List<String> answers) {
        for (int i = 0; i < MOST_CLASSES; i++) {
            for (int j = 0; j < 3; j++) {
                int c = i;
                int m = j;
                ask(answers, "use(" + c + ", " + m + ")", () -> x.use(c, m));
            }
        }
        for (int i = 0; i <= MOST_DEFINITIONS; i++) {
            int g = i;
            ask(answers, "given(" + g + ")", () -> x.given(g));
        }
        ask(answers, "apply(0, 0)", () -> x.apply(0, 0));
        ask(answers, "number(7)", () -> x.number(7));
        ask(answers, "primitive(7)", () -> x.primitive(7));
        ask(answers, "local(9)", () -> x.local(9));
    }

    /** The next numbers are asked for, and whatever they are, something new is made of them. */
    private static void makeProgram(DictionaryHouse x, List<String> answers) {
        int toInt = kept(answers, () -> x.function(2, 0));
        int c = kept(answers, () -> x.type(-1));
        kept(answers, () -> x.method(c, toInt));
        int one = kept(answers, () -> x.number(1));
        int constant = kept(answers, () -> x.lambda(one));
        int use = kept(answers, () -> x.use(c, 0));
        int local = kept(answers, () -> x.local(0));
        int same = kept(answers, () -> x.lambda(local));
        int itself = kept(answers, () -> x.apply(local, local));
        int endless = kept(answers, () -> x.lambda(itself));
        int sameSame = kept(answers, () -> x.apply(same, same));
        int used = kept(answers, () -> x.apply(use, one));
        int[] all = {same, use, sameSame, endless, constant, used, same, use};
        for (int e : all) {
            schemeOf(x, kept(answers, () -> x.define(e)), answers);
        }
        kept(answers, () -> x.instance(c, 0, -1, same, -1, -1));
        int g = kept(answers, () -> x.define(used));
        kept(answers, () -> x.run(g, 300));
        kept(answers, () -> x.value(0));
        kept(answers, () -> x.instance(c, 2, c, constant, -1, -1));
        kept(answers, () -> x.instance(c, 1, -1, constant, -1, -1));
    }

    private static void schemeOf(DictionaryHouse x, int g, List<String> answers) {
        for (int i = 0; i < 3; i++) {
            int what = i;
            kept(answers, () -> x.scheme(g, what));
        }
    }

    /** The number that was answered; when something was thrown, one that there is nowhere. */
    private static int kept(List<String> answers, Expect.Call call) {
        String answer = Expect.outcome(call);
        answers.add(answer);
        return answer.endsWith("Exception") ? Integer.MIN_VALUE : Integer.parseInt(answer);
    }
}
