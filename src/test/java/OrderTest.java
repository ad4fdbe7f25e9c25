/** Promise 6: order. */
public final class OrderTest {
    private OrderTest() {
    }

    public static void main(String[] args) {
        Due due = new Due("OrderTest");
        double[] edges = Samples.edges();
        for (double a : edges) {
            for (double b : edges) {
                orders(due, a, b);
            }
        }
        Samples samples = new Samples(6);
        for (int i = 0; i < 20000; i++) {
            double a = samples.anyNumber();
            orders(due, a, samples.anyNumber());
            orders(due, a, Math.nextDown(a) + 0.0);
            orders(due, a, Desks.otherSign(a));
        }
        ofZero(due);
        wrong(due);
        due.end();
    }

    private static void orders(Due due, double a, double b) {
        if (Double.isInfinite(b)) {
            return;
        }
        RealDesk desk = new RealDesk();
        Desks.put(desk, 14, a);
        Desks.put(desk, 15, b);
        int want = Exact.units(a).compareTo(Exact.units(b));
        String call = "order of " + Desks.told(a) + " and " + Desks.told(b);
        due.same(call, desk.order(14, 15), want);
        due.same(call + ", the other way", desk.order(15, 14), -want);
        due.same("order with itself", desk.order(14, 14), 0);
    }

    /** A 0 that came from below 0 is the same one. */
    private static void ofZero(Due due) {
        RealDesk desk = new RealDesk();
        due.same("set(0, -1, -1200)", desk.set(0, -1, -1200), 0);
        due.same("order(0, 1)", desk.order(0, 1), 0);
        due.same("change(0, 0, 1)", desk.change(0, 0, 1), 0);
        due.same("order(0, 1)", desk.order(0, 1), 0);
    }

    private static void wrong(Due due) {
        RealDesk desk = Desks.filled();
        double[] before = Desks.all(desk);
        for (int r : Desks.NO_REGISTERS) {
            due.refused("order(" + r + ", 0)", () -> desk.order(r, 0));
            due.refused("order(0, " + r + ")", () -> desk.order(0, r));
            due.refused("order(" + r + ", " + r + ")", () -> desk.order(r, r));
        }
        due.same("order(15, 0)", desk.order(15, 0), 1);
        Desks.unchanged(due, "calls of order", desk, before);
    }
}
