/** Promise 7: digits. */
public final class DigitsTest {
    private DigitsTest() {
    }

    public static void main(String[] args) {
        Due due = new Due("DigitsTest");
        given(due, 0, 0, 0);
        given(due, 0, 1100, 0);
        given(due, 1, 0, 1L << 52);
        given(due, -1, 0, -(1L << 52));
        given(due, 3, 0, 3L << 51);
        given(due, 1, -1074, 1);
        given(due, -7, -1074, -7);
        given(due, 1, -1073, 2);
        given(due, 1, -1023, 1L << 51);
        given(due, 1, -1022, 1L << 52);
        given(due, 1, -1021, 1L << 52);
        given(due, (1L << 52) - 1, -1074, (1L << 52) - 1);
        given(due, (1L << 53) - 1, -1074, (1L << 53) - 1);
        given(due, (1L << 53) - 1, -1073, (1L << 53) - 1);
        given(due, 1L << 53, -1074, 1L << 52);
        given(due, 1L << 53, 0, 1L << 52);
        given(due, (1L << 53) - 1, 971, (1L << 53) - 1);
        given(due, -(1L << 53) + 1, 971, -(1L << 53) + 1);
        given(due, 1, 1023, 1L << 52);
        many(due);
        wrong(due);
        due.end();
    }

    private static void given(Due due, long m, int e, long want) {
        RealDesk desk = new RealDesk();
        due.same("set(15, " + m + ", " + e + ")", desk.set(15, m, e), 0);
        due.same("digits after set(15, " + m + ", " + e + ")", desk.digits(15), want);
    }

    private static void many(Due due) {
        Samples samples = new Samples(7);
        for (int i = 0; i < 20000; i++) {
            double x = samples.anyNumber();
            RealDesk desk = new RealDesk();
            Desks.put(desk, 2, x);
            due.same("digits of " + Desks.told(x), desk.digits(2), Exact.m(x));
            long size = Math.abs(desk.digits(2));
            due.isTrue("2^52 at least, or e -1074", size >= 1L << 52 || desk.exponent(2) == -1074);
            due.isTrue("below 2^53", size < 1L << 53);
            due.same("set again", desk.set(3, desk.digits(2), desk.exponent(2)), 0);
            due.same("the same again", desk.order(2, 3), 0);
        }
    }

    private static void wrong(Due due) {
        RealDesk desk = Desks.filled();
        double[] before = Desks.all(desk);
        for (int r : Desks.NO_REGISTERS) {
            due.refused("digits(" + r + ")", () -> desk.digits(r));
        }
        for (int r = 0; r < Desks.REGISTERS; r++) {
            due.same("digits(" + r + ")", desk.digits(r), Exact.m(Desks.filling(r)));
        }
        Desks.unchanged(due, "calls of digits", desk, before);
    }
}
