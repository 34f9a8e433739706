/** Counts the answers of a test that are not as due; shared by the project's tests. */
final class Expect {
    private static final String ARGUMENT = "IllegalArgumentException";
    private static final String STATE = "IllegalStateException";

    /** A call of the program, so that what it throws can be looked at. */
    interface Call {
        Object answer();
    }

    private int wrong;
    private int looked;

    void same(String what, Object due, Call call) {
        looked++;
        String got = outcome(call);
        if (!got.equals(String.valueOf(due))) {
            wrong++;
            System.out.println(what + ": answered " + got + ", due is " + due);
        }
    }

    void badArgument(String what, Call call) {
        same(what, ARGUMENT, call);
    }

    void badState(String what, Call call) {
        same(what, STATE, call);
    }

    /** The answer as a text, or the simple name of what was thrown. */
    static String outcome(Call call) {
        try {
            return String.valueOf(call.answer());
        } catch (RuntimeException | StackOverflowError thrown) {
            return thrown.getClass().getSimpleName();
        }
    }

    void end() {
        System.out.println(looked + " answers looked at, " + wrong + " not as due");
        if (wrong > 0) {
            System.exit(1);
        }
    }
}
