import java.util.function.IntSupplier;

/** Counts and prints the calls of one test whose answers are not the ones that are due. */
final class Check {
    static final String INDEX = "IndexOutOfBoundsException";
    static final String TURN = "IllegalStateException";
    static final String RANGE = "IllegalArgumentException";
    static final String MEANING = "UnsupportedOperationException";

    private final String test;
    private int calls = 0;
    private int wrong = 0;

    Check(String test) {
        this.test = test;
    }

    /** The answer of a call as a text: a number, or the name of the exception that it throws. */
    static String answerOf(IntSupplier call) {
        try {
            return Integer.toString(call.getAsInt());
        } catch (RuntimeException e) {
            return e.getClass().getSimpleName();
        }
    }

    static String answerOf(Runnable call) {
        return answerOf(() -> {
            call.run();
            return 0;
        });
    }

    void same(String call, String got, String due) {
        calls++;
        if (!got.equals(due)) {
            wrong++;
            System.out.println(test + ": " + call + " answered " + got + ", due is " + due);
        }
    }

    void due(String call, IntSupplier made, int due) {
        same(call, answerOf(made), Integer.toString(due));
    }

    void done(String call, Runnable made) {
        same(call, answerOf(made), "0");
    }

    void refused(String call, Runnable made, String exception) {
        same(call, answerOf(made), exception);
    }

    void end() {
        System.out.println(test + ": " + calls + " answers, " + wrong + " not as due");
        if (wrong != 0) {
            System.exit(1);
        }
    }
}
