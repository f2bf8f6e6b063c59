import java.util.function.Consumer;
import java.util.function.Function;
import java.util.function.IntSupplier;
import java.util.function.Supplier;
import java.util.stream.IntStream;

/** Counts and prints the calls of one test whose answers are not the ones that are due. */
final class Check {
    static final String INDEX = "IndexOutOfBoundsException";
    static final String TURN = "IllegalStateException";
    static final String RANGE = "IllegalArgumentException";
    static final String MEANING = "UnsupportedOperationException";

    private final String test;
    private String sentence = "";
    private int calls = 0;
    private int wrong = 0;

    Check(String test) {
        this.test = test;
    }

    /** The sentence of the document that the next calls are about; it is printed with each wrong answer. */
    void sentence(String words) {
        sentence = "\"" + words + "\": ";
    }

    /** The answer of a call as a text: a number, or the name of the exception that it throws. */
    static String answerOf(IntSupplier call) {
        try {
            return Integer.toString(call.getAsInt());
        } catch (RuntimeException e) {
            return e.getClass().getSimpleName();
        }
    }

    static String answerOf(Runnable call) {
        return answerOf(() -> {
            call.run();
            return 0;
        });
    }

    void same(String call, String got, String due) {
        calls++;
        if (!got.equals(due)) {
            wrong++;
            System.out.println(test + ": " + sentence + call + " answered " + got + ", due is " + due);
        }
    }

    void due(String call, IntSupplier made, int due) {
        same(call, answerOf(made), Integer.toString(due));
    }

    void done(String call, Runnable made) {
        same(call, answerOf(made), "0");
    }

    void refused(String call, Runnable made, String exception) {
        same(call, answerOf(made), exception);
    }

    /** A call is refused, and an object with it and one without it answer alike from then on. */
    void refusedInVain(String call, Supplier<FewChanges> world, Consumer<FewChanges> made, String exception) {
        FewChanges x = world.get();
        refused(call, () -> made.accept(x), exception);
        inVain(call, world, made);
    }

    /** An object with a call and one without it answer alike from then on; the call may be refused or not. */
    void inVain(String call, Supplier<FewChanges> world, Consumer<FewChanges> made) {
        sameLook(call + ", then the plan and told()", world, made, x -> Look.atPlan(x) + Look.atTold(x));
        sameLook(call + ", then copies and undo()", world, made, Look::atCopiesAndUndo);
        sameLook(call + ", then orders, heats and stops", world, made, Look::atShop);
    }

    /** A look spends much of an object, so each has objects of its own. */
    void sameLook(String call, Supplier<FewChanges> world, Consumer<FewChanges> made,
            Function<FewChanges, String> look) {
        FewChanges with = world.get();
        answerOf(() -> made.accept(with));
        same(call, look.apply(with), look.apply(world.get()));
    }

    /** Numbers not within bounds: the nearest and the farthest ones, and some that would wrap around into them. */
    static int[] outside(int least, int most) {
        return IntStream.of(least - 1, most + 1, least + 32, least + 64, least + 256, least + 65536, least - 256,
                        Integer.MIN_VALUE, Integer.MIN_VALUE + 1 + least, Integer.MAX_VALUE)
                .filter(number -> number < least || number > most)
                .toArray();
    }

    void end() {
        System.out.println(test + ": " + calls + " answers, " + wrong + " not as due");
        if (wrong != 0) {
            System.exit(1);
        }
    }
}
