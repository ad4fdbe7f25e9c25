import java.util.function.LongSupplier;

/**
 * All promises together: runs of 512 calls on one desk, what one call leaves being what the next ones
 * use, each answer beside that of a Mirror to which the same was done.
 */
public final class RunsTest {
    private static final int RUNS = 2000;
    private static final int CALLS = 512;
    private static final int[] WRONG = {-1, 16, 9, -2000, 2000, Integer.MIN_VALUE, Integer.MAX_VALUE};
    private static final long[] GREAT_M = {1L << 53, (1L << 53) - 1, (1L << 53) + 1, Long.MIN_VALUE, Long.MAX_VALUE};
    /** Pairs, the least e and the greatest, of what a run likes to set. */
    private static final int[] RANGES = {-60, 12, -8, 2, -1200, 1100, -1140, -1060, 950, 1030, -545, -470, 440, 520};

    private final Due due;
    private final Samples samples;
    private final RealDesk desk = new RealDesk();
    private final Mirror mirror = new Mirror();
    private final int run;
    private final int range;

    private RunsTest(Due due, int run) {
        this.due = due;
        this.run = run;
        samples = new Samples(1000 + run);
        range = 2 * (run % (RANGES.length / 2));
    }

    public static void main(String[] args) {
        Due due = new Due("RunsTest");
        for (int run = 0; run < RUNS; run++) {
            RunsTest test = new RunsTest(due, run);
            for (int call = 1; call <= CALLS; call++) {
                test.callOne();
            }
        }
        due.end();
    }

    private void callOne() {
        // Many new numbers, for differences, rests and errors soon leave a 0 in every register.
        switch (samples.below(16)) {
            case 0:
            case 1:
            case 2:
            case 3:
            case 4:
                set(register(), m(), e());
                break;
            case 5:
            case 6:
            case 7:
            case 8:
                combine(register(), kind(), register(), register());
                break;
            case 9:
            case 10:
                change(register(), kind(), register());
                break;
            case 11:
                power(register(), register(), n());
                break;
            default:
                read(samples.below(5), register(), register());
                break;
        }
    }

    private void set(int to, long m, int e) {
        alike("set(" + to + ", " + m + ", " + e + ")", () -> desk.set(to, m, e), () -> mirror.set(to, m, e));
    }

    private void combine(int to, int kind, int a, int b) {
        alike("combine(" + to + ", " + kind + ", " + a + ", " + b + ")",
            () -> desk.combine(to, kind, a, b), () -> mirror.combine(to, kind, a, b));
    }

    private void change(int to, int kind, int a) {
        alike("change(" + to + ", " + kind + ", " + a + ")",
            () -> desk.change(to, kind, a), () -> mirror.change(to, kind, a));
    }

    private void power(int to, int a, int n) {
        alike("power(" + to + ", " + a + ", " + n + ")", () -> desk.power(to, a, n), () -> mirror.power(to, a, n));
    }

    private void read(int what, int r, int other) {
        switch (what) {
            case 0:
                alike("order(" + r + ", " + other + ")", () -> desk.order(r, other), () -> mirror.order(r, other));
                break;
            case 1:
                alike("digits(" + r + ")", () -> desk.digits(r), () -> mirror.digits(r));
                break;
            case 2:
                alike("exponent(" + r + ")", () -> desk.exponent(r), () -> mirror.exponent(r));
                break;
            case 3:
                alike("bits of value(" + r + ")", () -> Double.doubleToRawLongBits(desk.value(r)),
                    () -> Double.doubleToRawLongBits(mirror.value(r)));
                break;
            default:
                alike("whole(" + r + ")", () -> desk.whole(r), () -> mirror.whole(r));
                break;
        }
    }

    private void alike(String call, LongSupplier made, LongSupplier wanted) {
        due.alike("run " + run + ": " + call, made, wanted);
    }

    /** Seldom what there is not, else one of all; half the time one of few, so that calls meet. */
    private int register() {
        if (samples.below(60) == 0) {
            return wrong();
        }
        return samples.below(samples.below(2) == 0 ? 4 : 16);
    }

    private int kind() {
        return samples.below(60) == 0 ? wrong() : samples.below(9);
    }

    private int wrong() {
        return WRONG[samples.below(WRONG.length)];
    }

    private long m() {
        return samples.below(20) == 0 ? GREAT_M[samples.below(GREAT_M.length)] : samples.m();
    }

    private int e() {
        if (samples.below(60) == 0) {
            return wrong();
        }
        int first = samples.below(3) == 0 ? 0 : range;
        return RANGES[first] + samples.below(RANGES[first + 1] - RANGES[first] + 1);
    }

    private int n() {
        if (samples.below(30) == 0) {
            return wrong();
        }
        int greatest = samples.below(2) == 0 ? 6 : 1025;
        return samples.below(2 * greatest + 1) - greatest;
    }
}
