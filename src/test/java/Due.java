import java.util.function.DoubleSupplier;
import java.util.function.LongSupplier;

/** Compares answers with what is due, prints each that differs, and ends a test by its exit code. */
final class Due {
    static final String ARGUMENT = "throws.IllegalArgumentException";
    static final String STATE = "throws.IllegalStateException";

    private static final int SHOWN = 20;

    private final String test;
    private int checked = 0;
    private int wrong = 0;

    Due(String test) {
        this.test = test;
    }

    void same(String call, long got, long want) {
        check(call, Long.toString(got), Long.toString(want));
    }

    /** By their bits: a 0 with a sign would be a second 0. */
    void same(String call, double got, double want) {
        check(call, told(got), told(want));
    }

    void same(String call, String got, String want) {
        check(call, got, want);
    }

    void isTrue(String what, boolean holds) {
        check(what, Boolean.toString(holds), "true");
    }

    void answer(String call, LongSupplier made, long want) {
        check(call, outcome(made), Long.toString(want));
    }

    void number(String call, DoubleSupplier made, double want) {
        check(call, outcome(() -> Double.doubleToRawLongBits(made.getAsDouble())),
            Long.toString(Double.doubleToRawLongBits(want)));
    }

    /** Both answer the same, or throw the same. */
    void alike(String call, LongSupplier made, LongSupplier wanted) {
        check(call, outcome(made), outcome(wanted));
    }

    void refused(String call, LongSupplier made) {
        check(call, outcome(made), ARGUMENT);
    }

    void throwsState(String call, LongSupplier made) {
        check(call, outcome(made), STATE);
    }

    /** Prints the count; a test that checked nothing does not hold. */
    boolean holds() {
        System.out.println(test + ": " + checked + " answers, " + wrong + " not as due");
        return wrong == 0 && checked > 0;
    }

    void end() {
        if (!holds()) {
            System.exit(1);
        }
    }

    private void check(String call, String got, String want) {
        checked++;
        if (got.equals(want)) {
            return;
        }
        wrong++;
        if (wrong <= SHOWN) {
            System.out.println(test + ": " + call + " answered " + got + ", due is " + want);
        }
    }

    private static String told(double x) {
        return Double.toHexString(x);
    }

    private static String outcome(LongSupplier made) {
        try {
            return Long.toString(made.getAsLong());
        } catch (RuntimeException thrown) {
            return "throws." + thrown.getClass().getSimpleName();
        }
    }
}
