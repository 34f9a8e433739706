/** Counts the answers of a test that are not as due; shared by the project's tests. */
final class Expect {
    private static final String ARGUMENT = "IllegalArgumentException";
    private static final String STATE = "IllegalStateException";
    /** Behind so many the first cause is hard to find. */
    private static final int MOST_TOLD = 40;

    /** A call of the program, so that what it throws can be looked at. */
    interface Call {
        Object answer();
    }

    private int wrong;
    private int looked;
    private int sentences;
    private String sentence = "";

    /** A test of its own for a sentence of the document, told by the document's words. */
    void sentence(String words, Runnable test) {
        int before = looked;
        sentences++;
        sentence = "\"" + words + "\": ";
        try {
            test.run();
        } catch (RuntimeException | StackOverflowError thrown) {
            fail("ended by " + thrown);
        }
        if (looked == before) {
            fail("no answer was looked at");
        }
        sentence = "";
    }

    private void fail(String why) {
        wrong++;
        if (wrong <= MOST_TOLD) {
            System.out.println(sentence + why);
        }
    }

    void same(String what, Object due, Call call) {
        looked++;
        String got = outcome(call);
        if (!got.equals(String.valueOf(due))) {
            fail(what + ": answered " + got + ", due is " + due);
        }
    }

    void badArgument(String what, Call call) {
        same(what, ARGUMENT, call);
    }

    void badState(String what, Call call) {
        same(what, STATE, call);
    }

    /** The answer as a text, or the simple name of what was thrown. */
    static String outcome(Call call) {
        try {
            return String.valueOf(call.answer());
        } catch (RuntimeException | StackOverflowError thrown) {
            return thrown.getClass().getSimpleName();
        }
    }

    void end() {
        String of = sentences > 0 ? sentences + " sentences, " : "";
        System.out.println(of + looked + " answers looked at, " + wrong + " not as due");
        if (wrong > 0) {
            System.exit(1);
        }
    }
}
