/** Puts numbers into desks, and sees that a call left alone what it must. */
final class Desks {
    static final int REGISTERS = 16;
    static final int[] NO_REGISTERS = {-1, 16, 17, 32, -16, Integer.MIN_VALUE, Integer.MAX_VALUE};
    static final int[] NO_KINDS = {-1, 9, 10, 16, Integer.MIN_VALUE, Integer.MAX_VALUE};

    private Desks() {
    }

    static void put(RealDesk desk, int r, double x) {
        if (desk.set(r, Exact.m(x), Exact.e(x)) != 0) {
            throw new AssertionError("a number could not be set");
        }
    }

    /** A desk whose registers all differ, so that a write to the wrong one shows. */
    static RealDesk filled() {
        RealDesk desk = new RealDesk();
        for (int r = 0; r < REGISTERS; r++) {
            put(desk, r, filling(r));
        }
        return desk;
    }

    static double filling(int r) {
        return 100.25 + r;
    }

    static void unchanged(Due due, String call, RealDesk desk, double[] before) {
        for (int r = 0; r < REGISTERS; r++) {
            holds(due, call + ", register " + r, desk, r, before[r]);
        }
    }

    static double[] all(RealDesk desk) {
        double[] values = new double[REGISTERS];
        for (int r = 0; r < REGISTERS; r++) {
            values[r] = desk.value(r);
        }
        return values;
    }

    /** A register holds the number, by all three ways of reading it. */
    static void holds(Due due, String call, RealDesk desk, int r, double x) {
        due.same(call + ", then value", desk.value(r), x);
        due.same(call + ", then digits", desk.digits(r), Exact.m(x));
        due.same(call + ", then exponent", desk.exponent(r), Exact.e(x));
    }

    /** The number with the other sign; 0 has none. */
    static double otherSign(double x) {
        return x == 0 ? 0.0 : -x;
    }

    static String told(double x) {
        return Double.toHexString(x);
    }
}
