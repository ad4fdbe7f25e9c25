/** Promise 9: value. */
public final class ValueTest {
    private ValueTest() {
    }

    public static void main(String[] args) {
        Due due = new Due("ValueTest");
        for (double x : Samples.edges()) {
            holds(due, x);
        }
        for (int e = -1074; e <= 1023; e++) {
            holds(due, Math.scalb(1.0, e));
            holds(due, -Math.scalb(1.0, e));
        }
        for (int e = -1074; e <= 971; e++) {
            holds(due, (double) ((1L << 53) - 1) * Math.scalb(1.0, e));
        }
        Samples samples = new Samples(9);
        for (int i = 0; i < 30000; i++) {
            holds(due, samples.anyNumber());
        }
        oneZero(due);
        wrong(due);
        due.end();
    }

    private static void holds(Due due, double x) {
        RealDesk desk = new RealDesk();
        Desks.put(desk, 15, x);
        due.number("value of " + Desks.told(x), () -> desk.value(15), x);
    }

    /** 0 is one number: whatever gives it, it has no sign. */
    private static void oneZero(Due due) {
        RealDesk desk = new RealDesk();
        Desks.put(desk, 0, -0.5);
        Desks.put(desk, 1, -0x1p-1074);
        Desks.put(desk, 2, 1.0);
        isZero(due, desk, "set", desk.set(9, -1, -1200));
        isZero(due, desk, "the other sign of 0", desk.change(9, 0, 15));
        isZero(due, desk, "the whole number above -1/2", desk.change(9, 4, 0));
        isZero(due, desk, "the whole number inward of -1/2", desk.change(9, 5, 0));
        isZero(due, desk, "the whole number nearest to -1/2", desk.change(9, 6, 0));
        isZero(due, desk, "the next above the last below 0", desk.change(9, 7, 1));
        isZero(due, desk, "a product that is too small", desk.combine(9, 2, 1, 0));
        isZero(due, desk, "a product by 0", desk.combine(9, 2, 0, 15));
        isZero(due, desk, "a quotient of 0", desk.combine(9, 3, 15, 0));
        isZero(due, desk, "the rest of -1/2 by 1/2", desk.combine(9, 4, 0, 0));
        isZero(due, desk, "the difference of the same", desk.combine(9, 1, 0, 0));
        isZero(due, desk, "a power", desk.power(9, 1, 3));
    }

    private static void isZero(Due due, RealDesk desk, String what, int answer) {
        due.same(what, answer, 0);
        due.same(what, desk.value(9), 0.0);
        Desks.put(desk, 9, 5.0);
    }

    private static void wrong(Due due) {
        RealDesk desk = Desks.filled();
        for (int r : Desks.NO_REGISTERS) {
            due.refused("value(" + r + ")", () -> (long) desk.value(r));
        }
        for (int r = 0; r < Desks.REGISTERS; r++) {
            due.same("value(" + r + ")", desk.value(r), Desks.filling(r));
        }
    }
}
