/** Promise 8: exponent. */
public final class ExponentTest {
    private ExponentTest() {
    }

    public static void main(String[] args) {
        Due due = new Due("ExponentTest");
        given(due, 0, 0, -1074);
        given(due, 0, 1100, -1074);
        given(due, 1, 0, -52);
        given(due, -1, 0, -52);
        given(due, 3, 0, -51);
        given(due, 1, -1074, -1074);
        given(due, 1, -1022, -1074);
        given(due, -1, -1021, -1073);
        given(due, (1L << 53) - 1, -1074, -1074);
        given(due, 1L << 53, -1074, -1073);
        given(due, (1L << 53) - 1, -1075, -1074);
        given(due, 1L << 53, 0, 1);
        given(due, (1L << 53) - 1, 0, 0);
        given(due, (1L << 53) - 1, 971, 971);
        given(due, -1, 1023, 971);
        Samples samples = new Samples(8);
        for (int i = 0; i < 20000; i++) {
            double x = samples.anyNumber();
            RealDesk desk = new RealDesk();
            Desks.put(desk, 2, x);
            due.same("exponent of " + Desks.told(x), desk.exponent(2), Exact.e(x));
        }
        wrong(due);
        due.end();
    }

    private static void given(Due due, long m, int e, int want) {
        RealDesk desk = new RealDesk();
        due.same("set(15, " + m + ", " + e + ")", desk.set(15, m, e), 0);
        due.same("exponent after set(15, " + m + ", " + e + ")", desk.exponent(15), want);
    }

    private static void wrong(Due due) {
        RealDesk desk = Desks.filled();
        double[] before = Desks.all(desk);
        for (int r : Desks.NO_REGISTERS) {
            due.refused("exponent(" + r + ")", () -> desk.exponent(r));
        }
        for (int r = 0; r < Desks.REGISTERS; r++) {
            due.same("exponent(" + r + ")", desk.exponent(r), Exact.e(Desks.filling(r)));
        }
        Desks.unchanged(due, "calls of exponent", desk, before);
    }
}
