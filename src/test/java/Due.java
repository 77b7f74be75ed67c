import java.util.function.IntFunction;
import java.util.function.Supplier;

/** Counts the answers that are not the due ones, and prints each. */
final class Due {

    static final String INDEX = "IndexOutOfBoundsException";
    static final String ARGUMENT = "IllegalArgumentException";
    static final String STATE = "IllegalStateException";

    private final String test;
    private String promise = "";
    private int asked = 0;
    private int wrong = 0;

    Due(String test) {
        this.test = test;
    }

    void promise(int number, String name) {
        promise = "promise " + number + " (" + name + ")";
    }

    /** A sentence of the document that names an edge, and the promises that stand on it. */
    void sentence(String promises, String words) {
        promise = "promise " + promises + ", \"" + words + "\"";
    }

    void is(String call, Object got, Object want) {
        asked++;
        if (!got.equals(want)) {
            wrong++;
            System.out.println(promise + ": " + call + " answered " + got + ", due is " + want);
        }
    }

    void isThrown(String want, String call, Supplier<Object> asking) {
        is(call, answer(asking), "throws." + want);
    }

    /** Asks one call again and again, each time with another number. */
    void areThrown(String want, String call, IntFunction<Object> asking, int... numbers) {
        for (int number : numbers) {
            isThrown(want, call + " of " + number, () -> asking.apply(number));
        }
    }

    /** What a call answers, or which exception it throws, as a text. */
    static String answer(Supplier<Object> asking) {
        try {
            return String.valueOf(asking.get());
        } catch (RuntimeException e) {
            return "throws." + e.getClass().getSimpleName();
        }
    }

    void end() {
        System.out.println(test + ": " + (asked - wrong) + " of " + asked + " answers are as due");
        if (wrong > 0) {
            System.exit(1);
        }
    }
}
